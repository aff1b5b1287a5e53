/-! CONSTRUCTOR History() -/
theorem scell_eq {D : va_G} {Y : Nat → ClassId} {u u' : Nat → Nat} {x r : Nat} {H : Heap} (h : ∀ k, k < 20 → u k = u' k) (ha : va_at D vwCl (x, scell Y u r) H) : va_at D vwCl (x, scell Y u' r) H := by
  unfold scell at ha ⊢
  by_cases e0 : r = 0
  · rw [if_pos e0] at ha ⊢
    rw [← h 1 (by decide), ← h 2 (by decide), ← h 3 (by decide)]
    exact ha
  · rw [if_neg e0] at ha ⊢
    by_cases e1 : r = 1
    · rw [if_pos e1] at ha ⊢
      exact rwq_eq (fun j hj => by rw [h (4 + j) (by omega)]) ha
    · rw [if_neg e1] at ha ⊢
      by_cases e2 : r = 2
      · rw [if_pos e2] at ha ⊢
        exact rwq_eq (fun j hj => by rw [h (16 + j) (by omega)]) ha
      · rw [if_neg e2] at ha ⊢
        exact ha
def hcn (Y : Nat → ClassId) (i : Nat) (ad : Nat → Nat) (r : Nat) : va_E :=
  if r = 0 then .inr (0, [.ref (ad 1), .int 0])
  else if r = 1 then rwq (Y 3) 8 (fun q => if q < i then some (ad (2 + 20 * q)) else none)
  else scell Y (fun k => ad (2 + 20 * ((r - 2) / 20) + k)) ((r - 2) % 20)
theorem hcn_step {D : va_G} {Y : Nat → ClassId} {A : Nat → Prop} {i : Nat} {ad u : Nat → Nat} {H : Heap} (h : cOk D A (2 + 20 * i + 20) (stAd ad (2 + 20 * i) u) (fun r => if r = 1 then rwq (Y 3) 8 (va_up (fun q => if q < i then some (ad (2 + 20 * q)) else none) i (some (u 0))) else if r < 2 + 20 * i then hcn Y i ad r else scell Y u (r - (2 + 20 * i))) H) : cOk D A (2 + 20 * (i + 1)) (stAd ad (2 + 20 * i) u) (hcn Y (i + 1) (stAd ad (2 + 20 * i) u)) H := by
  have lo : ∀ k, k < 2 + 20 * i → stAd ad (2 + 20 * i) u k = ad k := fun k hk => if_pos hk
  have hi : ∀ k, stAd ad (2 + 20 * i) u (2 + 20 * i + k) = u k := fun k => by
    unfold stAd
    rw [if_neg (by omega), Nat.add_sub_cancel_left]
  rw [show 2 + 20 * (i + 1) = 2 + 20 * i + 20 by omega]
  refine h.cn (fun _ _ => rfl) (fun r hr z => ?_)
  unfold hcn
  by_cases e0 : r = 0
  · subst e0
    rw [if_neg (by decide), if_pos (by omega)] at z
    unfold hcn at z
    rw [if_pos rfl] at z ⊢
    rw [lo 1 (by omega)]
    exact z
  · rw [if_neg e0]
    by_cases e1 : r = 1
    · subst e1
      rw [if_pos rfl] at z ⊢
      refine rwq_eq (fun j hj => ?_) z
      unfold va_up
      by_cases e : j = i
      · subst e
        rw [if_pos rfl, if_pos (by omega)]
        have := hi 0
        rw [Nat.add_zero] at this
        rw [this]
      · rw [if_neg e]
        show (if j < i then some (ad (2 + 20 * j)) else none) = _
        by_cases e2 : j < i
        · rw [if_pos e2, if_pos (by omega), lo _ (by omega)]
        · rw [if_neg e2, if_neg (by omega)]
    · rw [if_neg e1] at z ⊢
      by_cases e2 : r < 2 + 20 * i
      · rw [if_pos e2] at z
        unfold hcn at z
        rw [if_neg e0, if_neg e1] at z
        exact scell_eq (fun k hk => by rw [lo _ (by omega)]) z
      · rw [if_neg e2] at z
        rw [show (r - 2) % 20 = r - (2 + 20 * i) by omega, show (r - 2) / 20 = i by omega]
        exact scell_eq (fun k _ => (hi k).symm) z
section NHI
variable {p : Program} {l : Launch} {e : Env} {R : Room} {s : State} {m : MethodId} {args : Array Value} {below : List Frame} {meth : Method} {cd : Code} {Q : State → Prop} {D : va_G} {Y : Nat → ClassId} {A : Nat → Prop}
set_option maxHeartbeats 4000000 in
set_option maxRecDepth 100000 in
theorem n0_loop15 (X : nX p s m args cd cX0_init 2 RX0 A) (hG : nG s) (hK : va_K D vwCl (mtY Y) s) (hA : ∀ q : Nat, s.heap.size ≤ q → A q) (hR : 3 ≤ R.frames ∧ 66 ≤ R.locals) : ∀ (k i : Nat) (ad : Nat → Nat) (H : Heap) (locs : List Loc) (ls : Array Slot) (cells slots : Nat), i + k = 8 → cells + 20 * k ≤ R.cells → slots + 142 * k ≤ R.slots → cOk D A (2 + 20 * i) ad (hcn Y i ad) H → va_S A s.heap H locs → lv_has ls 2 [(0, .ref (ad 0)), (1, .int (nI i))] →
    (∀ (ad' : Nat → Nat) (H : Heap) (locs : List Loc) (ls : Array Slot), ad' 0 = ad 0 → cOk D A 162 ad' (hcn Y 8 ad') H → va_S A s.heap H locs → W p l e R s m args below meth cd H locs (cells + 20 * k) (slots + 142 * k) Q (F0 m 43 ls [])) →
    W p l e R s m args below meth cd H locs cells slots Q (F0 m 15 ls []) := by
  have hx := X.1
  have hb := X.2.1
  have hown := X.2.2.2.1
  have hts := X.2.2.2.2.1
  intro k
  induction k with
  | zero =>
    intro i ad H locs ls cells slots hik hc1 hs1 O hS hl kk
    have e1 : i = 8 := by omega
    subst e1
    refine lv_iload_n hx hb dX0_init_15 rfl (lv_at hl 1 rfl) ?_
    refine lv_aload_n hx hb dX0_init_16 rfl (lv_at hl 0 rfl) ?_
    refine va_get (v := .ref (ad 1)) (ci := 0) (C := RX0) (T := TX0) (N := 2) hx hb hts inlX0 hown hK O.P 0 (tl_at (r := 0) (by decide)) rfl 0 (by decide) (hts _ wd_7_15) (fun _ h => h) rfl dX0_init_17 ?_
    refine va_alen (v := (8 : Int32)) hx hb hK O.P 1 3 (tl_at (r := 1) (by decide)) rfl rfl dX0_init_20 ?_
    refine lv_icmp_ge (tgt := 43) hx hb dX0_init_21 (by decide) (fun _ => ?_) (fun h1 => absurd (show (8 : Int32) ≤ nI 8 by decide) h1)
    exact kk ad H locs ls rfl O hS
  | succ k ih =>
    intro i ad H locs ls cells slots hik hc1 hs1 O hS hl kk
    have h0 : (tl (2 + 20 * i) ad (hcn Y i ad))[0]? = some (ad 0, .inr (0, [.ref (ad 1), .int 0])) := tl_at (r := 0) (by omega)
    have h1 : (tl (2 + 20 * i) ad (hcn Y i ad))[1]? = some (ad 1, rwq (Y 3) 8 (fun q => if q < i then some (ad (2 + 20 * q)) else none)) := tl_at (r := 1) (by omega)
    refine lv_iload_n hx hb dX0_init_15 rfl (lv_at hl 1 rfl) ?_
    refine lv_aload_n hx hb dX0_init_16 rfl (lv_at hl 0 rfl) ?_
    refine va_get (v := .ref (ad 1)) (ci := 0) (C := RX0) (T := TX0) (N := 2) hx hb hts inlX0 hown hK O.P 0 h0 rfl 0 (by decide) (hts _ wd_7_15) (fun _ h => h) rfl dX0_init_17 ?_
    refine va_alen (v := (8 : Int32)) hx hb hK O.P 1 3 h1 rfl rfl dX0_init_20 ?_
    refine lv_icmp_ge (tgt := 43) hx hb dX0_init_21 (by decide) (fun h1 => absurd h1 (jlt (n := 8) (by decide) (by omega))) (fun _ => ?_)
    refine lv_aload_n hx hb dX0_init_24 rfl (lv_at hl 0 rfl) ?_
    refine va_get (v := .ref (ad 1)) (ci := 0) (C := RX0) (T := TX0) (N := 2) hx hb hts inlX0 hown hK O.P 0 h0 rfl 0 (by decide) (hts _ wd_7_15) (fun _ h => h) rfl dX0_init_25 ?_
    refine lv_iload_n hx hb dX0_init_28 rfl (lv_at hl 1 rfl) ?_
    refine nc_state (i1 := 9) (i2 := 17) X hG hK hA hl.1 O hS dX0_init_29 dX0_init_32 dX0_init_33 wd_7_14 wd_7_16 hR ⟨by omega, by omega⟩ (fun q => Nat.le_of_ble_eq_true rfl) (fun u H1 locs1 O1 hS1 => ?_)
    have a1 : stAd ad (2 + 20 * i) u 1 = ad 1 := if_pos (by omega)
    have a0 : stAd ad (2 + 20 * i) u 0 = ad 0 := if_pos (by omega)
    have aN : stAd ad (2 + 20 * i) u (2 + 20 * i) = u 0 := by unfold stAd; rw [if_neg (by omega), Nat.sub_self]
    have k1 := tl_at (N := 2 + 20 * i + 20) (r := 1) (ad := stAd ad (2 + 20 * i) u) (cn := fun r => if r < 2 + 20 * i then hcn Y i ad r else scell Y u (r - (2 + 20 * i))) (by omega)
    rw [a1] at k1
    rw [if_pos (show 1 < 2 + 20 * i by omega)] at k1
    have k2 := tl_at (N := 2 + 20 * i + 20) (r := 2 + 20 * i) (ad := stAd ad (2 + 20 * i) u) (cn := fun r => if r < 2 + 20 * i then hcn Y i ad r else scell Y u (r - (2 + 20 * i))) (by omega)
    rw [aN] at k2
    rw [if_neg (show ¬ 2 + 20 * i < 2 + 20 * i by omega), Nat.sub_self] at k2
    refine va_astq (vs := vSt0 (.ref (u 1)) (.ref (u 2)) (.ref (u 3))) hx hb hK O1.P O1.D hS1 1 3 (2 + 20 * i) 3 (f := fun q => if q < i then some (ad (2 + 20 * q)) else none) k1 rfl k2 rfl (mx_lit (jA_in (n := i) (N := 8) (by omega) (by decide))) dX0_init_36 (fun H3 locs3 hP3 hD3 hS3 => ?_)
    rw [jA_clamp (by omega), ← a1] at hP3 hD3
    have O3 := hcn_step (cOk.set (by omega) hP3 hD3)
    refine lv_iinc (v := nI (i + 1)) (lv' := [(1, .int (nI (i + 1))), (0, .ref (ad 0))]) hx hb dX0_init_37 hl (k := 1) rfl (by rw [← jA_1]; rfl) (by decide) rfl (fun ls hl => ?_)
    refine lv_goto (tgt := 15) hx hb dX0_init_40 (by decide) ?_
    refine ih (i + 1) (stAd ad (2 + 20 * i) u) H3 locs3 ls (cells + 20) (slots + 142) (by omega) (by omega) (by omega) O3 hS3 (by rw [a0]; exact lv_sub hl [1, 0] rfl) (fun ad' H locs ls b1 b2 b3 => ?_)
    have := kk ad' H locs ls (b1.trans a0) b2 b3
    rwa [show cells + 20 * (k + 1) = cells + 20 + 20 * k by omega, show slots + 142 * (k + 1) = slots + 142 + 142 * k by omega] at this
end NHI
set_option maxHeartbeats 4000000 in
set_option maxRecDepth 100000 in
theorem i_History (l : Launch) (D : va_G) (Y : Nat → ClassId) (h sz : Nat) : Met l yX0_init (mWs yX0_init cX0_init 2 none) ({ frames := 3, cells := 161, slots := 1144, locals := 80 }) (va_Pc [.ref h] (fun U => U.heap.size = sz ∧ va_P D vwCl [(h, .inr (0, [.null, .int 0]))] U.heap ∧ va_K D vwCl (mtY Y) U ∧ nG U ∧ sS (va_A [(h, .inr (0, [.null, .int 0]))] sz) U U.heap)) (va_Qv (fun u : Nat → Nat => u 0 = h) (fun u t => cOk D (va_A [(h, .inr (0, [.null, .int 0]))] sz) 162 u (hcn Y 8 u) t.heap) (va_A [(h, .inr (0, [.null, .int 0]))] sz)) 161 1144 (va_A [(h, .inr (0, [.null, .int 0]))] sz) := by
  refine Met.ofW (cc := cX0_init) (maxL := 2) (ret := none) (by decide) rfl ?_
  intro p e s m args below meth c s₁ B hml hv
  obtain ⟨rfl, hsz, hP, hK, hG, hF⟩ := hv
  have hx := B.exec
  have hb := B.bytes
  have hr := B.returns
  have hts : ∀ w ∈ wsL_law, w.before _ s = true := fun w hw => atoms_spec (ws := mWs yX0_init cX0_init 2 none) B.pre w (List.mem_cons_of_mem _ hw)
  have hown : s.vm.findClass RX0 = some m.cls := findClass_of_methodNamed B.named
  have hlocks := B.notSynchronized
  have hin : meth.name = "<init>" := (name_of_methodNamed B.named B.method).1
  subst hsz
  have hD : va_D (va_A [(h, .inr (0, [.null, .int 0]))] s.heap.size) [(h, .inr (0, [.null, .int 0]))] := by
    refine ⟨fun i j p q hi hj _ => ?_, fun k q hk => va_A.in hk⟩
    have h1 : i < 1 := (List.getElem?_eq_some_iff.mp hi).1
    have h2 : j < 1 := (List.getElem?_eq_some_iff.mp hj).1
    omega
  generalize hAe : va_A [(h, .inr (0, [.null, .int 0]))] s.heap.size = A at hD hF ⊢
  have hA : ∀ q : Nat, s.heap.size ≤ q → A q := fun q h => by rw [← hAe]; exact Or.inr h
  have hS : va_S A s.heap s.heap [] := va_S.rf
  have hl := lv_entry ([.ref h]) (n := 2) (Nat.le_of_ble_eq_true rfl)
  rw [lg_entry_eq]
  generalize (lg_sl ([.ref h]) ++ List.replicate (2 - (lg_sl ([.ref h])).length) Slot.unset).toArray = ls at hl ⊢
  have hl : lv_has ls 2 [(0, .ref h)] := hl
  refine lv_aload_n hx hb dX0_init_0 rfl (lv_at hl 0 rfl) ?_
  refine W.objInit hx hb hown (hts _ wd_7_13) (hts _ wd_1_9) (hts _ wd_1_10) rfl (by rw [hml]; exact hl.1) rfl dX0_init_1 (Nat.le_of_ble_eq_true rfl) (Nat.le_of_ble_eq_true rfl) ?_
  refine W.eq (g2 := F0 m 4 ls []) rfl ?_
  refine lv_aload_n hx hb dX0_init_4 rfl (lv_at hl 0 rfl) ?_
  refine lv_bipush (v := (8 : Int32)) hx hb dX0_init_5 (by decide) ?_
  refine va_newq (C := "PeatRailway$State") (N' := 8) hx hb hown (hts _ wd_7_14) hG.2.2.2.2.1 hK hP hD hS hA (by decide) (by decide) (by decide) (Nat.le_of_ble_eq_true rfl) (Nat.le_of_ble_eq_true rfl) dX0_init_7 (fun a1 cA H hK2 hP hD hS => ?_)
  rw [findRow (t := 3) hK rfl hK2] at hP hD
  refine va_putF (D := D) (ci := 0) (v := .ref a1) (ty := .array (.object "PeatRailway$State")) (C := RX0) (T := TX0) (N := 2) hx hb hts inlX0 tyX0 tyX0_ok nmX0 hown hK hP hD hS 0 rfl rfl 0 (by decide) (hts _ wd_7_15) (fun _ h9 => h9) rfl hin rfl (by decide +kernel) rfl rfl (Nat.le_of_ble_eq_true rfl) dX0_init_10 (fun H locs hP hD hS => ?_)
  have O : cOk D A (2 + 20 * 0) (fun r => if r = 0 then h else a1) (hcn Y 0 (fun r => if r = 0 then h else a1)) H := by
    have key : ∀ r, r < 2 → ([(h, Sum.inr (0, [.ref a1, .int 0])), (a1, rwq (Y 3) 8 (fun _ => none))] : va_W)[r]? = some ((fun r => if r = 0 then h else a1) r, if r = 0 then .inr (0, [.ref a1, .int 0]) else rwq (Y 3) 8 (fun _ => none)) := fun r hr => by
      rcases (show r = 0 ∨ r = 1 by omega) with rfl | rfl <;> rfl
    refine ⟨fun r hr => ?_, fun r r' hr hr' he => hD.1 _ _ _ _ (key r hr) (key r' hr') he, fun r hr => hD.2 _ _ (key r hr)⟩
    have hz := hP _ _ (key r hr)
    rcases (show r = 0 ∨ r = 1 by omega) with rfl | rfl
    · exact hz
    · exact rwq_eq (fun j _ => by rw [if_neg (by omega)]) hz
  refine lv_iconst (v := (0 : Int32)) hx hb dX0_init_13 (by decide) ?_
  refine lv_istore_n (lv' := [(1, .int 0), (0, .ref h)]) hx hb dX0_init_14 rfl hl (by decide) rfl (fun ls hl => ?_)
  refine n0_loop15 ⟨hx, hb, hml, hown, hts, hF⟩ hG hK hA ⟨Nat.le_of_ble_eq_true rfl, Nat.le_of_ble_eq_true rfl⟩ 8 0 _ H locs ls _ _ rfl (Nat.le_of_ble_eq_true rfl) (Nat.le_of_ble_eq_true rfl) O hS (lv_sub hl [1, 0] rfl) (fun ad' H locs ls b1 b2 hS => ?_)
  exact W.vret hx hb hr (fun t ht hW => ⟨⟨ad', rfl, b1, by show cOk D A 162 _ _ t.heap; rw [ht]; exact b2⟩, hS.F ht⟩) hS.2.2 dX0_init_43
