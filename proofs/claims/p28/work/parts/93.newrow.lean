/-! ONE ROW MORE in the world -/
def eRow (E : mE) (r q : Nat) : mE := (E.1, mY E, fset (mad E) r q, mI E ++ [r])
def rz (G : mM) (r : Nat) : mM := fun c k => if c = r then 0 else G c k
theorem rz_o {G : mM} {r c : Nat} (h : c ≠ r) : rz G r c = G c := by
  funext k
  unfold rz
  rw [if_neg h]
theorem rz_s (G : mM) (r : Nat) : rz G r r = fun _ => 0 := by
  funext k
  unfold rz
  rw [if_pos rfl]
abbrev h244 (G : mM) : Prop := ∀ j, j < 8 → (G 244 j).toNatClampNeg < 246
/-- a cell in a world whose class cells lie where they lay -/
theorem mc_env {E E' : mE} {G : mM} {x c : Nat} {H : Heap} (hY : mY E = mY E') (hm : ∀ k, k < 246 → mad E' k = mad E k) (h4 : h244 G) (h : va_at E.1 vwCl (x, mcell E G c) H) : va_at E.1 vwCl (x, mcell E' G c) H := by
  unfold mcell at h ⊢
  by_cases c0 : c < 240
  · rw [if_pos c0] at h ⊢
    by_cases e0 : c % 20 = 0
    · rw [if_pos e0] at h ⊢
      have e : f_St (mad E) G c = f_St (mad E') G c := by
        unfold f_St
        rw [hm (c + 1) (by omega), hm (c + 2) (by omega), hm (c + 3) (by omega)]
      rw [← e]; exact h
    · rw [if_neg e0] at h ⊢
      by_cases e1 : c % 20 = 1
      · rw [if_pos e1] at h ⊢
        rw [← hY]
        exact rwq_eq (fun j hj => by rw [hm (c + 3 + j) (by omega)]) h
      · rw [if_neg e1] at h ⊢
        by_cases e2 : c % 20 = 2
        · rw [if_pos e2] at h ⊢
          rw [← hY]
          exact rwq_eq (fun j hj => by rw [hm (c + 14 + j) (by omega)]) h
        · rw [if_neg e2] at h ⊢
          rw [hY] at h
          exact h
  · rw [if_neg c0] at h ⊢
    by_cases e0 : c = 240
    · rw [if_pos e0] at h ⊢
      have e : f_Ra (mad E) G c = f_Ra (mad E') G c := by
        unfold f_Ra
        rw [hm 241 (by decide), hm 0 (by decide), hm 20 (by decide), hm 243 (by decide), hm 245 (by decide)]
      rw [← e]; exact h
    · rw [if_neg e0] at h ⊢
      by_cases e1 : c = 241
      · rw [if_pos e1] at h ⊢
        have e : f_Tx (mad E) G c = f_Tx (mad E') G c := by
          unfold f_Tx
          rw [hm 242 (by decide)]
        rw [← e]; exact h
      · rw [if_neg e1] at h ⊢
        by_cases e2 : c = 242
        · rw [if_pos e2] at h ⊢
          rw [hY] at h
          exact h
        · rw [if_neg e2] at h ⊢
          by_cases e3 : c = 243
          · rw [if_pos e3] at h ⊢
            have e : f_Hi (mad E) G c = f_Hi (mad E') G c := by
              unfold f_Hi
              rw [hm 244 (by decide)]
            rw [← e]; exact h
          · rw [if_neg e3] at h ⊢
            by_cases e4 : c = 244
            · rw [if_pos e4] at h ⊢
              rw [← hY]
              exact rwq_eq (fun j hj => by rw [e4, hm _ (h4 j hj)]) h
            · rw [if_neg e4] at h ⊢
              by_cases e5 : c = 245
              · rw [if_pos e5] at h ⊢
                rw [← hY]
                exact rwq_eq (fun j hj => by rw [hm (200 + 20 * j) (by omega)]) h
              · rw [if_neg e5] at h ⊢
                rw [hY] at h
                exact h
theorem mS.more {E E' : mE} {s : State} (h : mS E s s.heap) (hA : ∀ q, mA E' q → mA E q ∨ s.heap.size ≤ q) : mS E' s s.heap := fun i hi => by
  obtain ⟨t, ⟨cf, kf, fi, f, a, cell, h1, h2, h3, h4, h5, h6, h7, h8⟩, ⟨cell2, g1, g2, g3, g4, g5, g6, g7⟩⟩ := h i hi
  refine ⟨t, ⟨cf, kf, fi, f, a, cell, h1, h2, h3, h4, h5, h6, h7, fun z => ?_⟩, ⟨cell2, g1, g2, g3, g4, g5, g6, fun z => ?_⟩⟩
  · rcases hA _ z with q | q
    · exact h8 q
    · have := (Array.getElem?_eq_some_iff.mp h5).1; omega
  · rcases hA _ z with q | q
    · exact g7 q
    · have := (Array.getElem?_eq_some_iff.mp g1).1; omega
section NEWR
variable {p : Program} {l : Launch} {e : Env} {R : Room} {s : State} {m : MethodId} {args : Array Value} {below : List Frame} {meth : Method} {c : Code} {H : Heap} {locs : List Loc} {cells slots : Nat} {Q : State → Prop}
variable {cc : ByteArray} {pc nL : Nat} {ls : Array Slot} {rest : List Value} {own : String} {E : mE} {G : mM}
theorem mx_newa (X : mX p s m args c cc nL own E) (Z : mZ E s.heap H locs G) (h4 : h244 G) {r : Nat} (hI : ∀ c ∈ mI E, c < r) (hr : 246 ≤ r) {nv : Int32} {N : Nat} (hN : nv.toNatClampNeg = N) (hn : ¬ nv < 0) (hm : mLn r = N) (hby : N * componentBytes .int ≤ 536870912) (hcells : cells + 1 ≤ R.cells) (hslots : slots + N ≤ R.slots) (hdg : decode cc pc = .ok (.newarray .int, 2))
    (kk : ∀ (q : Nat) (H1 : Heap), s.heap.size ≤ q → (∀ c ∈ mI E, mad (eRow E r q) c = mad E c) → mX p s m args c cc nL own (eRow E r q) → mZ (eRow E r q) s.heap H1 locs (rz G r) → W p l e R s m args below meth c H1 locs (cells + 1) (slots + N) Q (F0 m (pc + 2) ls (.ref q :: rest))) : W p l e R s m args below meth c H locs cells slots Q (F0 m pc ls (.int nv :: rest)) := by
  obtain ⟨hx, hb, hml, hown, hts, hK, hJ, hSt⟩ := id X
  have hA : ∀ q : Nat, s.heap.size ≤ q → (fun q => mA E q ∨ s.heap.size ≤ q) q := fun q h => Or.inr h
  have hS : va_S (fun q => mA E q ∨ s.heap.size ≤ q) s.heap H locs := ⟨Z.2.1, fun q h1 h2 => Z.2.2.1 q h1 (fun z => h2 (Or.inl z)), fun l hl => Or.inl (Z.2.2.2 l hl)⟩
  have hD : va_D (fun q => mA E q ∨ s.heap.size ≤ q) (mws E G) := (mD_of hJ G).weaken (fun _ _ _ h => Or.inl h)
  refine va_newa (atype := .int) (ty := .int) (N' := N) (a0 := (N, .inl (fun _ => 0))) hx hb (hts _ wd_1_3) rfl hK Z.1 hD hS hA (fun _ => rfl) hn hN hby hcells hslots hdg (fun q cA H1 hK2 hP1 hD1 hS1 => ?_)
  have ecA : cA = mY E 1 := findRow (t := 1) hK rfl hK2
  subst ecA
  have hnew : ∀ c ∈ mI E, mad E c ≠ q := fun c hc he => by
    obtain ⟨i, hi⟩ := List.getElem?_of_mem hc
    have h1 : (mws E G)[i]? = some (mad E c, mcell E G c) := mws_at hi
    have := hD1.1 i _ _ _ (mid_pre h1) mid_at he
    have := (List.getElem?_eq_some_iff.mp h1).1
    omega
  have hq : s.heap.size ≤ q := by
    rcases hD1.2 _ _ mid_at with z | z
    · obtain ⟨c, hc, he⟩ := z
      exact absurd he (hnew c hc)
    · exact z
  have hmad : ∀ c ∈ mI E, mad (eRow E r q) c = mad E c := fun c hc => fset_n (by have := hI c hc; omega)
  have hmr : mad (eRow E r q) r = q := fset_s _ _ _
  have hAr : ∀ x, mA (eRow E r q) x → mA E x ∨ x = q := by
    rintro x ⟨c, hc, rfl⟩
    rcases List.mem_append.mp hc with h | h
    · exact Or.inl ⟨c, h, (hmad c h).symm⟩
    · rw [List.mem_singleton.mp h]; exact Or.inr hmr
  have hAl : ∀ x, mA E x → mA (eRow E r q) x := by
    rintro x ⟨c, hc, rfl⟩
    exact ⟨c, List.mem_append_left _ hc, hmad c hc⟩
  have hJ' : mJ (eRow E r q) := by
    show ((mI E ++ [r]).map (mad (eRow E r q))).Nodup
    rw [List.map_append, List.nodup_append]
    refine ⟨?_, by simp, fun a ha b hb => ?_⟩
    · have : (mI E).map (mad (eRow E r q)) = (mI E).map (mad E) := List.map_congr_left hmad
      rw [this]; exact hJ
    · obtain ⟨c, hc, rfl⟩ := List.mem_map.mp ha
      rw [List.map_cons, List.map_nil, List.mem_singleton] at hb
      rw [hb, hmr, hmad c hc]
      exact hnew c hc
  refine kk q H1 hq hmad ⟨hx, hb, hml, hown, hts, hK, hJ', hSt.more (fun x hx => ?_)⟩ ⟨mP_of (fun c hc => ?_), hS1.1, fun x h1 h2 => hS1.2.1 x h1 (fun z => ?_), fun l hl => hAl _ (Z.2.2.2 l hl)⟩
  · rcases hAr x hx with z | z
    · exact Or.inl z
    · rw [z]; exact Or.inr hq
  · rcases List.mem_append.mp hc with h | h
    · have hcr : c ≠ r := by have := hI c h; omega
      obtain ⟨i, hi⟩ := List.getElem?_of_mem h
      have h1 : va_at E.1 vwCl (mad E c, mcell E G c) H1 := hP1 i _ (mid_pre (mws_at hi))
      rw [mcell_cong (show rz G r c = G c from rz_o hcr), hmad c h]
      exact mc_env (E := E) (E' := eRow E r q) rfl (fun k hk => fset_n (by omega)) h4 h1
    · rw [List.mem_singleton.mp h, hmr]
      have h1 : va_at E.1 vwCl (q, .inl (mY E 1, N, .inl (fun _ => 0))) H1 := hP1 _ _ mid_at
      have e1 : mcell (eRow E r q) (rz G r) r = .inl (mY E 1, N, .inl (fun _ => 0)) := by
        unfold mcell
        rw [if_neg (by omega), if_neg (by omega), if_neg (by omega), if_neg (by omega), if_neg (by omega), if_neg (by omega), if_neg (by omega), hm, rz_s]
        rfl
      rw [e1]
      exact h1
  · rcases z with z | z
    · exact h2 (hAl _ z)
    · omega
theorem mx_backN {mc ms : Nat} {a : Array Value} {v : Option Value} {G' : mM} {st0 : List Value} (hr : va_Run p l e R s m args below meth c H locs cells slots mc ms (F0 m pc ls st0) rest (mQ E v G' a) (mA E)) (Z : mZ E s.heap H locs G)
    (kk : ∀ (H1 : Heap) (locs1 : List Loc), mZ E s.heap H1 locs1 G' → W p l e R s m args below meth c H1 locs1 (cells + mc) (slots + ms) Q (F0 m (pc + 3) ls (v.toList ++ rest))) : W p l e R s m args below meth c H locs cells slots Q (F0 m pc ls st0) := by
  intro T hT X
  obtain ⟨v1, st₀, t, T', L, h0, X', hL, e1, e2, ⟨hv, hp, hz, hk⟩, st⟩ := hr T hT X
  cases hv
  rw [h0] at hz hk
  obtain ⟨t2, a1, b1⟩ := kk T'.heap (locs ++ L) ⟨by rw [e1]; exact hp, Nat.le_trans Z.2.1 (by rw [e1]; exact hz), fun q h1 h2 => by rw [e1, hk q (Nat.lt_of_lt_of_le h1 Z.2.1) h2]; exact Z.2.2.1 q h1 h2, fun q hq => by
      rcases List.mem_append.mp hq with h | h
      · exact Z.2.2.2 q h
      · exact hL q h⟩ T' rfl X'
  exact ⟨t2, st t2 a1, b1⟩
/-- a contract of a method that makes cells -/
def mMetN (l : Launch) (E : mE) (y : MethodName) (cc : ByteArray) (n : Nat) (ret : Option FieldType) (fr lo mc ms : Nat) (av : List Value) (G : mM) (v : Option Value) (G' : mM) : Prop :=
  Met l y (mWs y cc n ret) ({ frames := fr, cells := mc, slots := ms, locals := lo }) (mPc E av G) (mQ E v G') mc ms (mA E)
theorem mx_callSN (X : mX p s m args c cc nL own E) (Z : mZ E s.heap H locs G) (hs : ls.size = nL) {y : MethodName} {cc' : ByteArray} {n' : Nat} {ret : Option FieldType} {fr lo mc ms index : Nat} {As : List Value} {v : Option Value} {G' : mM} (hM : mMetN l E y cc' n' ret fr lo mc ms As G v G') (w1 : Cond.methodLink own index y ∈ wsL_law) (w2 : Cond.static y ∈ wsL_law) (w4 : Cond.initialized y.cls ∈ wsL_law) (w5 : Cond.code y cc' n' ret ∈ wsL_law) (hd : y.cls ≠ "java/lang/invoke/MethodHandle" ∧ y.cls ≠ "java/lang/invoke/VarHandle" ∧ (parseMethodDescriptor y.desc).map (fun d => d.parameters.length) = some As.length) (hR : fr + 1 ≤ R.frames ∧ 8 + (n' + 11) + lo ≤ R.locals) (hcs : cells + mc ≤ R.cells ∧ slots + ms ≤ R.slots) (hcat : (rest.map fun v => v.category).sum ≤ 8) {st0 st1 : List Value} (hst : st0 = As.reverse ++ rest) (hs1 : v.toList ++ rest = st1) (hdg : decode cc pc = .ok (.invokestatic index, 3))
    (kk : ∀ (H1 : Heap) (locs1 : List Loc), mZ E s.heap H1 locs1 G' → W p l e R s m args below meth c H1 locs1 (cells + mc) (slots + ms) Q (F0 m (pc + 3) ls st1)) : W p l e R s m args below meth c H locs cells slots Q (F0 m pc ls st0) := by
  subst hs1
  obtain ⟨hx, hb, hml, hown, hts, hK, hJ, hSt⟩ := id X
  have hg : GoodIn wsL_law (va_wsS own index y (mWs y cc' n' ret)) := mx_good (fun w h => by
    simp only [va_wsS, mWs, List.cons_append, List.nil_append, List.mem_cons] at h
    rcases h with rfl | rfl | rfl | rfl | h
    · exact w1
    · exact w2
    · exact w4
    · exact w5
    · exact h)
  exact mx_backN (va_runS (As := As) (rest := rest) (g := F0 m pc ls st0) (free := mA E) ⟨hx, hb, hml, hown, hts⟩ hM (va_cwS As.length hts hg rfl rfl rfl hd hR) ⟨mPc.blind, fun U hU hW => mx_pre X Z U hU hW⟩ rfl rfl hs hst (lv_room hcat) hdg hcs) Z kk
/-! the law's cell(s, k) -/
def cellV (L : Nat) (xs : Nat → Int32) (k : Int32) : Int32 := if k < Int32.ofNat L then xs k.toNatClampNeg else 625341585 * (k + 1)
theorem hdL_cell : yL_cell.cls ≠ "java/lang/invoke/MethodHandle" ∧ yL_cell.cls ≠ "java/lang/invoke/VarHandle" ∧ (parseMethodDescriptor yL_cell.desc).map (fun d => d.parameters.length) = some 2 := by decide +kernel
def cellPc (b L : Nat) (xs : Nat → Int32) (k : Int32) : Array Value → State → Prop := fun v U => v = [.ref b, .int k].toArray ∧ va_X b L xs U U.heap ∧ b < U.heap.size
def cellQ (L : Nat) (xs : Nat → Int32) (k : Int32) : Array Value → State → Outcome → State → Prop := fun _ st oc t => oc = .returned (some (.int (cellV L xs k))) ∧ va_F (fun _ => False) st t
set_option maxHeartbeats 4000000 in
set_option maxRecDepth 100000 in
theorem mL_cell (l : Launch) (b L : Nat) (xs : Nat → Int32) (hL : L ≤ 260) (k : Int32) (hk : ¬ k < 0) : Met l yL_cell (mWs yL_cell cL_cell 2 (some .int)) ({ frames := 0, cells := 0, slots := 0, locals := 0 }) (cellPc b L xs k) (cellQ L xs k) 0 0 (fun _ => False) := by
  refine Met.ofW (cc := cL_cell) (maxL := 2) (ret := some .int) (by decide) rfl ?_
  intro p e s m args below meth c s₁ B hml hv
  obtain ⟨rfl, hX, hbl⟩ := hv
  have hx := B.exec
  have hb := B.bytes
  have hr := B.returns
  have hts : ∀ w ∈ wsL_law, w.before _ s = true := fun w hw => atoms_spec (ws := mWs yL_cell cL_cell 2 (some .int)) B.pre w (List.mem_cons_of_mem _ hw)
  have hown : s.vm.findClass RL = some m.cls := findClass_of_methodNamed B.named
  have hlocks := B.notSynchronized
  have hS : va_S (fun _ => False) s.heap s.heap [] := va_S.rf
  have hl := lv_entry ([.ref b, .int k]) (n := 2) (Nat.le_of_ble_eq_true rfl)
  rw [lg_entry_eq]
  generalize (lg_sl ([.ref b, .int k]) ++ List.replicate (2 - (lg_sl ([.ref b, .int k])).length) Slot.unset).toArray = ls at hl ⊢
  have hl : lv_has ls 2 [(0, .ref b), (1, .int k)] := hl
  refine lv_iload_n hx hb dL_cell_0 rfl (lv_at hl 1 rfl) ?_
  refine lv_aload_n hx hb dL_cell_1 rfl (lv_at hl 0 rfl) ?_
  refine va_slen hx hb hX hbl (fun z => z) hS dL_cell_2 ?_
  refine lv_icmp_ge (tgt := 12) hx hb dL_cell_3 (by decide) (fun h => ?_) (fun h => ?_)
  · refine lv_ldc (v := (625341585 : Int32)) hx hb hown (hts _ wd_16_23) dL_cell_12 ?_
    refine lv_iload_n hx hb dL_cell_14 rfl (lv_at hl 1 rfl) ?_
    refine lv_iconst (v := (1 : Int32)) hx hb dL_cell_15 (by decide) ?_
    refine lv_iadd hx hb dL_cell_16 ?_
    refine lv_imul hx hb dL_cell_17 ?_
    have e : cellV L xs k = 625341585 * (k + 1) := by
      unfold cellV
      rw [if_neg (fun q => by rw [jA_lt] at q; rw [jA_le] at h; omega)]
    exact W.iret hx hb hr (fun t ht hW => ⟨by rw [e], hS.F ht⟩) hS.2.2 dL_cell_18
  · refine lv_aload_n hx hb dL_cell_6 rfl (lv_at hl 0 rfl) ?_
    refine lv_iload_n hx hb dL_cell_7 rfl (lv_at hl 1 rfl) ?_
    have hlt : k < Int32.ofNat L := by rw [jA_lt]; rw [jA_le] at h; omega
    obtain ⟨j, hj, rfl⟩ := nI_of hk
    have hj2 : j < L := (jA_nlt (a := j) (b := L) hj (by omega)).mp hlt
    refine va_sld hx hb hX hbl (fun z => z) hS (vp_in_nI hj2 (by omega)) dL_cell_8 ?_
    refine lv_goto (tgt := 18) hx hb dL_cell_9 (by decide) ?_
    have e : cellV L xs (nI j) = xs (nI j).toNatClampNeg := by
      unfold cellV
      rw [if_pos hlt]
    exact W.iret hx hb hr (fun t ht hW => ⟨by rw [e], hS.F ht⟩) hS.2.2 dL_cell_18
theorem mx_cell {b L : Nat} {xs : Nat → Int32} (X : mX p s m args c cc nL RL E) (Z : mZ E s.heap H locs G) (hX : va_X b L xs s s.heap) (hbl : b < s.heap.size) (hbA : ¬ mA E b) (hL : L ≤ 260) (hs : ls.size = nL) {k : Int32} (hk : ¬ k < 0) (hR : 1 ≤ R.frames ∧ 21 ≤ R.locals) (hcs : cells ≤ R.cells ∧ slots ≤ R.slots) (hcat : (rest.map fun v => v.category).sum ≤ 8) {index : Nat} (w1 : Cond.methodLink RL index yL_cell ∈ wsL_law) (hdg : decode cc pc = .ok (.invokestatic index, 3))
    (kk : ∀ (H1 : Heap) (locs1 : List Loc), mZ E s.heap H1 locs1 G → W p l e R s m args below meth c H1 locs1 cells slots Q (F0 m (pc + 3) ls (.int (cellV L xs k) :: rest))) : W p l e R s m args below meth c H locs cells slots Q (F0 m pc ls (.int k :: .ref b :: rest)) := by
  obtain ⟨hx, hb, hml, hown, hts, hK, hJ, hSt⟩ := id X
  have hg : GoodIn wsL_law (va_wsS RL index yL_cell (mWs yL_cell cL_cell 2 (some .int))) := mx_good (fun w h => by
    simp only [va_wsS, mWs, List.cons_append, List.nil_append, List.mem_cons] at h
    rcases h with rfl | rfl | rfl | rfl | h
    · exact w1
    · exact wd_16_21
    · exact wd_10_7
    · exact wd_16_22
    · exact h)
  have hr := va_runS (l := l) (p := p) (e := e) (below := below) (meth := meth) (cells := cells) (slots := slots) (locs := locs) (As := [.ref b, .int k]) (rest := rest) (g := F0 m pc ls (.int k :: .ref b :: rest)) (free := fun _ => False) ⟨hx, hb, hml, hown, hts⟩ (mL_cell l b L xs hL k hk) (va_cwS 2 hts hg rfl rfl rfl hdL_cell hR) ⟨fun a U g mk q => ⟨q.1, va_X.moved (u := U) (U := U.calling g mk a) (Vm.Alike.refl U.vm) q.2.1, q.2.2⟩, fun U hU hW => ⟨rfl, by rw [hU]; exact (hX.kept (Z.2.2.1 b hbl hbA)).moved hW.alike, by rw [hU]; exact Nat.lt_of_lt_of_le hbl Z.2.1⟩⟩ rfl rfl hs rfl (lv_room hcat) hdg ⟨hcs.1, hcs.2⟩
  intro T hT XX
  obtain ⟨v1, st₀, t, T', L1, h0, X', hL1, e1, e2, ⟨hv, hz, hkp⟩, st⟩ := hr T hT XX
  cases hv
  rw [h0] at hz hkp
  have hkp' : ∀ q : Nat, q < H.size → T'.heap[q]? = H[q]? := fun q h => by rw [e1]; exact hkp q h (fun z => z)
  obtain ⟨t2, a1, b1⟩ := kk T'.heap (locs ++ L1) ⟨mP_keep Z.1 hkp', Nat.le_trans Z.2.1 (by rw [e1]; exact hz), fun q h1 h2 => by rw [hkp' q (Nat.lt_of_lt_of_le h1 Z.2.1)]; exact Z.2.2.1 q h1 h2, fun q hq => by
      rcases List.mem_append.mp hq with h | h
      · exact Z.2.2.2 q h
      · exact absurd (hL1 q h) (fun z => z)⟩ T' rfl X'
  exact ⟨t2, st t2 a1, b1⟩
end NEWR
