/-! MORE CELLS AT ONCE; new InputText() and new History() within a constructor -/
theorem cOk.more {D : va_G} {A : Nat → Prop} {N M : Nat} {ad u : Nat → Nat} {cn cu : Nat → va_E} {e : va_E} {H H1 : Heap} (h : cOk D A (N + 1) ad cn H) (hA : ∀ q : Nat, H.size ≤ q → A q) (hs : cOk D (va_A [(ad N, e)] H.size) M u cu H1) (hk : ∀ q : Nat, q < H.size → ¬ va_A [(ad N, e)] H.size q → H1[q]? = H[q]?) : cOk D A (N + M) (stAd ad N u) (fun r => if r < N then cn r else cu (r - N)) H1 := by
  obtain ⟨h1, h2, h3⟩ := h
  obtain ⟨s1, s2, s3⟩ := hs
  have hin : ∀ q, va_A [(ad N, e)] H.size q → q = ad N ∨ H.size ≤ q := fun q hq => by
    rcases hq with ⟨k, e', hk⟩ | hq
    · have hz : k < 1 := (List.getElem?_eq_some_iff.mp hk).1
      rw [show k = 0 by omega] at hk
      cases hk
      exact Or.inl rfl
    · exact Or.inr hq
  have hold : ∀ r, r < N → ad r < H.size ∧ ¬ va_A [(ad N, e)] H.size (ad r) := fun r hr => by
    have hl : ad r < H.size := (h1 r (by omega)).lt
    refine ⟨hl, fun z => ?_⟩
    rcases hin _ z with q | q
    · have := h2 r N (by omega) (by omega) q; omega
    · omega
  have hnew : ∀ r r', r < N → r' < M → ad r ≠ u r' := fun r r' hr hr' he => (hold r hr).2 (by rw [he]; exact s3 r' hr')
  refine ⟨fun r hr => ?_, fun r r' hr hr' he => ?_, fun r hr => ?_⟩
  · unfold stAd
    dsimp only
    by_cases e1 : r < N
    · rw [if_pos e1, if_pos e1]
      exact (h1 r (by omega)).kept (hk _ (hold r e1).1 (hold r e1).2)
    · rw [if_neg e1, if_neg e1]
      exact s1 (r - N) (by omega)
  · unfold stAd at he
    by_cases e1 : r < N
    · rw [if_pos e1] at he
      by_cases e2 : r' < N
      · rw [if_pos e2] at he
        exact h2 r r' (by omega) (by omega) he
      · rw [if_neg e2] at he
        exact absurd he (hnew r (r' - N) e1 (by omega))
    · rw [if_neg e1] at he
      by_cases e2 : r' < N
      · rw [if_pos e2] at he
        exact absurd he.symm (hnew r' (r - N) e2 (by omega))
      · rw [if_neg e2] at he
        have := s2 (r - N) (r' - N) (by omega) (by omega) he
        omega
  · unfold stAd
    by_cases e1 : r < N
    · rw [if_pos e1]; exact h3 r (by omega)
    · rw [if_neg e1]
      rcases hin _ (s3 (r - N) (by omega)) with q | q
      · rw [q]; exact h3 N (by omega)
      · exact hA _ q
def tcell (Y : Nat → ClassId) (u : Nat → Nat) (r : Nat) : va_E := if r = 0 then .inr (1, [.ref (u 1), .int 0]) else .inl (Y 0, 40, .inl (fun _ => 0))
section NCH
variable {p : Program} {l : Launch} {e : Env} {R : Room} {s : State} {m : MethodId} {args : Array Value} {below : List Frame} {meth : Method} {c : Code} {H : Heap} {locs : List Loc} {cells slots : Nat} {Q : State → Prop}
variable {cc : ByteArray} {pc nL : Nat} {ls : Array Slot} {rest : List Value} {own : String} {A : Nat → Prop} {D : va_G} {Y : Nat → ClassId} {N : Nat} {ad : Nat → Nat} {cn : Nat → va_E}
theorem nc_one {q N : Nat} {x : va_E} {ad : Nat → Nat} {cn : Nat → va_E} (O1 : cOk D A (N + 1) (fset ad N q) (fun r => if r = N then x else cn r) H) : va_P D vwCl [(q, x)] H := fun k y hk => by
  have hz : k < 1 := (List.getElem?_eq_some_iff.mp hk).1
  rw [show k = 0 by omega] at hk
  cases hk
  have := O1.1 N (by omega)
  rw [fset_s] at this
  dsimp only at this
  rw [if_pos rfl] at this
  exact this
theorem nc_A {q sz : Nat} {x : va_E} (hq : A q) (hA : ∀ x : Nat, sz ≤ x → A x) : ∀ z, va_A [(q, x)] sz z → A z := fun z hz => by
  rcases hz with ⟨k, e', hk⟩ | hz
  · have hz : k < 1 := (List.getElem?_eq_some_iff.mp hk).1
    rw [show k = 0 by omega] at hk
    cases hk
    exact hq
  · exact hA z hz
theorem nc_end {q N M : Nat} {x : va_E} {u : Nat → Nat} {cu : Nat → va_E} {H2 : Heap} (O1 : cOk D A (N + 1) (fset ad N q) (fun r => if r = N then x else cn r) H) (hA : ∀ z : Nat, H.size ≤ z → A z) (hs : cOk D (va_A [(q, x)] H.size) M u cu H2) (hk : ∀ z : Nat, z < H.size → ¬ va_A [(q, x)] H.size z → H2[z]? = H[z]?) : cOk D A (N + M) (stAd ad N u) (fun r => if r < N then cn r else cu (r - N)) H2 := by
  have O2 := O1.more (e := x) (u := u) (cu := cu) (H1 := H2) (M := M) hA (by rw [fset_s]; exact hs) (by rw [fset_s]; exact hk)
  refine O2.cn (fun r _ => ?_) (fun r hr z => ?_)
  · unfold stAd
    by_cases h : r < N
    · rw [if_pos h, if_pos h, fset_n (by omega)]
    · rw [if_neg h, if_neg h]
  · by_cases h : r < N
    · rw [if_pos h] at z ⊢
      rw [if_neg (show r ≠ N by omega)] at z
      exact z
    · rw [if_neg h] at z ⊢
      exact z
set_option maxHeartbeats 4000000 in
set_option maxRecDepth 100000 in
theorem nc_hist (X : nX p s m args c cc nL own A) (hG : nG s) (hK : va_K D vwCl (mtY Y) s) (hA : ∀ q : Nat, s.heap.size ≤ q → A q) (hls : ls.size = nL) (O : cOk D A N ad cn H) (hS : va_S A s.heap H locs) {i1 i2 : Nat} (d1 : decode cc pc = .ok (.new i1, 3)) (d2 : decode cc (pc + 3) = .ok (.dup, 1)) (d3 : decode cc (pc + 3 + 1) = .ok (.invokespecial i2, 3)) (w1 : Cond.classLink own i1 RX0 ∈ wsL_law) (w2 : Cond.methodLink own i2 yX0_init ∈ wsL_law) (hR : 4 ≤ R.frames ∧ 101 ≤ R.locals) (hc : cells + 162 ≤ R.cells ∧ slots + 1146 ≤ R.slots) (hcat : ∀ q : Nat, ((Value.ref q :: rest).map fun v => v.category).sum ≤ 8)
    (kk : ∀ (u : Nat → Nat) (H1 : Heap) (locs1 : List Loc), cOk D A (N + 162) (stAd ad N u) (fun r => if r < N then cn r else hcn Y 8 u (r - N)) H1 → va_S A s.heap H1 locs1 → W p l e R s m args below meth c H1 locs1 (cells + 162) (slots + 1146) Q (F0 m (pc + 3 + 1 + 3) ls (.ref (u 0) :: rest))) : W p l e R s m args below meth c H locs cells slots Q (F0 m pc ls rest) := by
  obtain ⟨hx, hb, hml, hown, hts, hSt⟩ := X
  refine va_new (ci := 0) (fs := [.null, .int 0]) (C := RX0) (T := TX0) (N := 2) hx hb hts inlX0 tyX0 tyX0_ok hown (hts _ w1) (hts _ wd_1_21) (hts _ wd_1_22) hK O.P O.D hS hA rfl (fun j hj => by rcases (show j = 0 ∨ j = 1 by omega) with rfl | rfl <;> rfl) (by omega) (by omega) d1 (fun q H1 hP1 hD1 hS1 => ?_)
  have O1 := cOk.push hP1 hD1
  have hq : A q := by have := O1.2.2 N (by omega); rwa [fset_s] at this
  refine lv_dup hx hb d2 rfl ?_
  have hPc := nc_one O1
  have hA1 : ∀ z : Nat, H1.size ≤ z → A z := fun z hz => hA z (Nat.le_trans hS1.1 hz)
  have hAc := nc_A (x := .inr (0, [.null, .int 0])) hq hA1
  refine va_callv (va_runI (As := []) (rest := .ref q :: rest) ⟨hx, hb, hml, hown, hts⟩ (i_History l D Y q H1.size) (cwI 0 hts (mx_good (fun w hw => by rcases List.mem_cons.mp hw with rfl | hw; exact wd_7_12; exact hw)) rfl rfl rfl (hts _ wd_1_22) (hts _ w2) (hts _ wd_7_11) rfl (by decide +kernel) ⟨hR.1, hR.2⟩) ⟨fun a U g mk q => by obtain ⟨q0, q1, qP, qK, qG, qF⟩ := q; exact ⟨q0, q1, qP, va_K.moved (u := U) (U := U.calling g mk a) (Vm.Alike.refl U.vm) qK, qG, qF⟩, fun U hU hW => ⟨rfl, by rw [hU], by rw [hU]; exact hPc, va_K.moved hW.alike hK, hG.warm hW, by rw [hU]; exact (((hSt.kept (fun a h1 h2 => hS1.2.1 a h1 h2)).moved hW.alike).narrow hAc)⟩⟩ rfl rfl hls rfl (lv_room (hcat q)) d3 ⟨by omega, by omega⟩) hS1 (fun x _ h => hAc x h) hAc (fun u t H2 locs2 ht hvm hw hB hz1 hk1 hS2 => ?_)
  have hw : u 0 = q := hw
  have hB : cOk D (va_A [(q, .inr (0, [.null, .int 0]))] H1.size) 162 u (hcn Y 8 u) H2 := by rw [← ht]; exact hB
  have := kk u H2 locs2 (nc_end O1 hA1 hB hk1) hS2
  rwa [hw] at this
set_option maxHeartbeats 4000000 in
set_option maxRecDepth 100000 in
theorem nc_text (X : nX p s m args c cc nL own A) (hK : va_K D vwCl (mtY Y) s) (hA : ∀ q : Nat, s.heap.size ≤ q → A q) (hls : ls.size = nL) (O : cOk D A N ad cn H) (hS : va_S A s.heap H locs) {i1 i2 : Nat} (d1 : decode cc pc = .ok (.new i1, 3)) (d2 : decode cc (pc + 3) = .ok (.dup, 1)) (d3 : decode cc (pc + 3 + 1) = .ok (.invokespecial i2, 3)) (w1 : Cond.classLink own i1 RX1 ∈ wsL_law) (w2 : Cond.methodLink own i2 yX1_init ∈ wsL_law) (hR : 2 ≤ R.frames ∧ 32 ≤ R.locals) (hc : cells + 2 ≤ R.cells ∧ slots + 42 ≤ R.slots) (hcat : ∀ q : Nat, ((Value.ref q :: rest).map fun v => v.category).sum ≤ 8)
    (kk : ∀ (u : Nat → Nat) (H1 : Heap) (locs1 : List Loc), cOk D A (N + 2) (stAd ad N u) (fun r => if r < N then cn r else tcell Y u (r - N)) H1 → va_S A s.heap H1 locs1 → W p l e R s m args below meth c H1 locs1 (cells + 2) (slots + 42) Q (F0 m (pc + 3 + 1 + 3) ls (.ref (u 0) :: rest))) : W p l e R s m args below meth c H locs cells slots Q (F0 m pc ls rest) := by
  obtain ⟨hx, hb, hml, hown, hts, hSt⟩ := X
  refine va_new (ci := 1) (fs := [.null, .int 0]) (C := RX1) (T := TX1) (N := 2) hx hb hts inlX1 tyX1 tyX1_ok hown (hts _ w1) (hts _ wd_1_12) (hts _ wd_1_13) hK O.P O.D hS hA rfl (fun j hj => by rcases (show j = 0 ∨ j = 1 by omega) with rfl | rfl <;> rfl) (by omega) (by omega) d1 (fun q H1 hP1 hD1 hS1 => ?_)
  have O1 := cOk.push hP1 hD1
  have hq : A q := by have := O1.2.2 N (by omega); rwa [fset_s] at this
  refine lv_dup hx hb d2 rfl ?_
  have hPc := nc_one O1
  have hA1 : ∀ z : Nat, H1.size ≤ z → A z := fun z hz => hA z (Nat.le_trans hS1.1 hz)
  have hAc := nc_A (x := .inr (1, [.null, .int 0])) hq hA1
  refine va_callv (va_runI (As := []) (rest := .ref q :: rest) ⟨hx, hb, hml, hown, hts⟩ (i_Text l D Y q H1.size) (cwI 0 hts (mx_good (fun w hw => by rcases List.mem_cons.mp hw with rfl | hw; exact wd_2_3; exact hw)) rfl rfl rfl (hts _ wd_1_13) (hts _ w2) (hts _ wd_2_2) rfl (by decide +kernel) ⟨hR.1, hR.2⟩) ⟨fun a U g mk q => by obtain ⟨q0, q1, qP, qK⟩ := q; exact ⟨q0, q1, qP, va_K.moved (u := U) (U := U.calling g mk a) (Vm.Alike.refl U.vm) qK⟩, fun U hU hW => ⟨rfl, by rw [hU], by rw [hU]; exact hPc, va_K.moved hW.alike hK⟩⟩ rfl rfl hls rfl (lv_room (hcat q)) d3 ⟨by omega, by omega⟩) hS1 (fun x _ h => hAc x h) hAc (fun u t H2 locs2 ht hvm hw hB hz1 hk1 hS2 => ?_)
  obtain ⟨hB1, hB2⟩ := hB
  rw [ht] at hB1
  have hB : cOk D (va_A [(q, .inr (1, [.null, .int 0]))] H1.size) 2 (fun r => if r = 0 then q else u) (tcell Y (fun r => if r = 0 then q else u)) H2 := by
    have key : ∀ r, r < 2 → ([(q, Sum.inr (1, [.ref u, .int 0])), (u, .inl (Y 0, 40, .inl (fun _ => 0)))] : va_W)[r]? = some ((fun r => if r = 0 then q else u) r, tcell Y (fun r => if r = 0 then q else u) r) := fun r hr => by
      rcases (show r = 0 ∨ r = 1 by omega) with rfl | rfl <;> rfl
    exact ⟨fun r hr => hB1 _ _ (key r hr), fun r r' hr hr' he => hB2.1 _ _ _ _ (key r hr) (key r' hr') he, fun r hr => hB2.2 _ _ (key r hr)⟩
  exact kk _ H2 locs2 (nc_end O1 hA1 hB hk1) hS2
def bcn (f : List Value) (c : Nat → va_E) : Nat → va_E := fun r => if r = 0 then .inr (5, f) else c r
theorem bcn_app {N : Nat} (hN : 0 < N) (f : List Value) (c g : Nat → va_E) : (fun r => if r < N then bcn f c r else g (r - N)) = bcn f (fun r => if r < N then c r else g (r - N)) := by
  funext r
  unfold bcn
  by_cases h : r = 0
  · subst h
    rw [if_pos rfl, if_pos hN, if_pos rfl]
  · rw [if_neg h, if_neg h]
/-- a final field of the first cell -/
theorem nc_put {cL : Nat → va_E} {fs : List Value} (X : nX p s m args c cc nL RX5 A) (hK : va_K D vwCl (mtY Y) s) (O : cOk D A N ad (bcn fs cL) H) (hN : 0 < N) (hS : va_S A s.heap H locs) (hin : meth.name = "<init>") (hf : fs.length = 6) (k : Nat) {index : Nat} (hk : k < 5) (w : Cond.fieldLink RX5 index "PeatRailway" (TX5 k).2.1 (TX5 k).2.2.1 ∈ wsL_law) {v : Value} {ty : FieldType} (hd : parseFieldDescriptor (TX5 k).2.2.1 = some ty) (hn : narrow ty v = v) (hfit : fits ty v = true) (hdg : decode cc pc = .ok (.putfield index, 3))
    (kk : ∀ (H1 : Heap) (locs1 : List Loc), cOk D A N ad (bcn (fs.set k v) cL) H1 → va_S A s.heap H1 locs1 → W p l e R s m args below meth c H1 locs1 cells slots Q (F0 m (pc + 3) ls rest)) : W p l e R s m args below meth c H locs cells slots Q (F0 m pc ls (v :: .ref (ad 0) :: rest)) := by
  obtain ⟨hx, hb, hml, hown, hts, hSt⟩ := X
  have hT : (TX5 k).1 = "PeatRailway" ∧ (TX5 k).2.2.2 = true := by
    rcases (show k = 0 ∨ k = 1 ∨ k = 2 ∨ k = 3 ∨ k = 4 by omega) with rfl | rfl | rfl | rfl | rfl <;> exact ⟨rfl, rfl⟩
  refine va_putF (D := D) (ci := 5) (v := v) (ty := ty) (C := RX5) (T := TX5) (N := 6) (ref := "PeatRailway") hx hb hts inlX5 tyX5 tyX5_ok nmX5 hown hK O.P O.D hS 0 (by rw [tl_at hN]; rfl) rfl k (by omega) (hts _ w) (fun x h9 => by rwa [hT.1] at h9) hT.2 hin hT.1 hd hn hfit (by omega) hdg (fun H1 locs1 hP1 hD1 hS1 => ?_)
  refine kk H1 locs1 ((cOk.set hN hP1 hD1).cn (fun _ _ => rfl) (fun r _ z => ?_)) hS1
  unfold bcn at z ⊢
  by_cases h : r = 0
  · rw [if_pos h] at z ⊢
    exact z
  · rw [if_neg h] at z ⊢
    rw [if_neg h] at z
    exact z
end NCH
