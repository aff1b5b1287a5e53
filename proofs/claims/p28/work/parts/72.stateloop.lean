/-! State(): the loops -/
theorem mid_at {P T : va_W} {x : Nat × va_E} : (P ++ x :: T)[P.length]? = some x := by
  rw [List.getElem?_append_right (Nat.le_refl _), Nat.sub_self]
  rfl
theorem mid_in {P T : va_W} {x y : Nat × va_E} {i : Nat} (h : T[i]? = some y) : (P ++ x :: T)[P.length + 1 + i]? = some y := by
  rw [List.getElem?_append_right (by omega), show P.length + 1 + i - P.length = i + 1 by omega]
  exact h
theorem mid_pre {P T : va_W} {x y : Nat × va_E} {i : Nat} (h : P[i]? = some y) : (P ++ x :: T)[i]? = some y := by
  rw [List.getElem?_append_left (List.getElem?_eq_some_iff.mp h).1]
  exact h
theorem mid_set {P T : va_W} {x y : Nat × va_E} : (P ++ x :: T).set P.length y = P ++ y :: T := by
  rw [List.set_append_right _ _ (Nat.le_refl _), Nat.sub_self]
  rfl
section NST
variable {p : Program} {l : Launch} {e : Env} {R : Room} {s : State} {m : MethodId} {args : Array Value} {below : List Frame} {meth : Method} {cd : Code} {Q : State → Prop} {D : va_G} {Y : Nat → ClassId} {A : Nat → Prop}

set_option maxHeartbeats 4000000 in
set_option maxRecDepth 100000 in
theorem n3_loop15 (hx : p.tables.exec = Jvm.exec) (hb : cd.code = cX3_init) (hml : cd.maxLocals = 2) (hown : s.vm.findClass RX3 = some m.cls) (hts : ∀ w ∈ wsL_law, w.before args s = true) (hK : va_K D vwCl (mtY Y) s) (hG : nG s) (hA : ∀ q : Nat, s.heap.size ≤ q → A q) (hR : 2 ≤ R.frames ∧ 32 ≤ R.locals) {P : va_W} {a h : Nat} {fs : List Value} (hP0 : P[0]? = some (h, .inr (3, fs))) (hfs : fs[0]? = some (.ref a)) : ∀ (k i : Nat) (g : Nat → Nat) (H : Heap) (locs : List Loc) (ls : Array Slot) (cells slots : Nat), i + k = 12 → cells + k ≤ R.cells → slots + 6 * k ≤ R.slots → va_P D vwCl (P ++ ((a, rwq (Y 2) 12 (upto i 0 g)) :: tailW 0 (.inr (2, vSeg0)) g i)) H → va_D A (P ++ ((a, rwq (Y 2) 12 (upto i 0 g)) :: tailW 0 (.inr (2, vSeg0)) g i)) → va_S A s.heap H locs → lv_has ls 2 [(0, .ref h), (1, .int (nI i))] →
    (∀ (g : Nat → Nat) (H : Heap) (locs : List Loc) (ls : Array Slot), va_P D vwCl (P ++ ((a, rwq (Y 2) 12 (upto 12 0 g)) :: tailW 0 (.inr (2, vSeg0)) g 12)) H → va_D A (P ++ ((a, rwq (Y 2) 12 (upto 12 0 g)) :: tailW 0 (.inr (2, vSeg0)) g 12)) → va_S A s.heap H locs → lv_has ls 2 [(0, .ref h)] → W p l e R s m args below meth cd H locs (cells + k) (slots + 6 * k) Q (F0 m 43 ls [])) →
    W p l e R s m args below meth cd H locs cells slots Q (F0 m 15 ls []) := by
  intro k
  induction k with
  | zero =>
    intro i g H locs ls cells slots hik hc1 hs1 hP hD hS hl kk
    have e1 : i = 12 := by omega
    subst e1
    refine lv_iload_n hx hb dX3_init_15 rfl (lv_at hl 1 rfl) ?_
    refine lv_aload_n hx hb dX3_init_16 rfl (lv_at hl 0 rfl) ?_
    refine va_get (ci := 3) (C := RX3) (T := TX3) (N := 11) hx hb hts inlX3 hown hK hP 0 (mid_pre hP0) rfl 0 (by decide) (hts _ wd_4_18) (fun _ h => h) hfs dX3_init_17 ?_
    refine va_alen (v := (12 : Int32)) hx hb hK hP P.length 2 mid_at rfl rfl dX3_init_20 ?_
    refine lv_icmp_ge (tgt := 43) hx hb dX3_init_21 (by decide) (fun _ => ?_) (fun h1 => absurd (show (12 : Int32) ≤ nI 12 by decide) h1)
    exact kk g H locs ls hP hD hS (lv_sub hl [0] rfl)
  | succ k ih =>
    intro i g H locs ls cells slots hik hc1 hs1 hP hD hS hl kk
    refine lv_iload_n hx hb dX3_init_15 rfl (lv_at hl 1 rfl) ?_
    refine lv_aload_n hx hb dX3_init_16 rfl (lv_at hl 0 rfl) ?_
    refine va_get (ci := 3) (C := RX3) (T := TX3) (N := 11) hx hb hts inlX3 hown hK hP 0 (mid_pre hP0) rfl 0 (by decide) (hts _ wd_4_18) (fun _ h => h) hfs dX3_init_17 ?_
    refine va_alen (v := (12 : Int32)) hx hb hK hP P.length 2 mid_at rfl rfl dX3_init_20 ?_
    refine lv_icmp_ge (tgt := 43) hx hb dX3_init_21 (by decide) (fun h1 => absurd h1 (jlt (n := 12) (by decide) (by omega))) (fun _ => ?_)
    refine lv_aload_n hx hb dX3_init_24 rfl (lv_at hl 0 rfl) ?_
    refine va_get (ci := 3) (C := RX3) (T := TX3) (N := 11) hx hb hts inlX3 hown hK hP 0 (mid_pre hP0) rfl 0 (by decide) (hts _ wd_4_18) (fun _ h => h) hfs dX3_init_25 ?_
    refine lv_iload_n hx hb dX3_init_28 rfl (lv_at hl 1 rfl) ?_
    refine va_new (ci := 2) (fs := vSeg0) (C := RX2) (T := TX2) (N := 6) hx hb hts inlX2 tyX2 tyX2_ok hown (hts _ wd_4_17) (hts _ wd_4_19) (hts _ wd_4_20) hK hP hD hS hA rfl (fun j hj => by rcases (show j = 0 ∨ j = 1 ∨ j = 2 ∨ j = 3 ∨ j = 4 ∨ j = 5 by omega) with rfl | rfl | rfl | rfl | rfl | rfl <;> rfl) (by omega) (by omega) dX3_init_29 (fun q H1 hP1 hD1 hS1 => ?_)
    rw [List.append_assoc, List.cons_append, tailW_s, Nat.zero_add] at hP1 hD1
    refine lv_dup hx hb dX3_init_32 rfl ?_
    refine va_callv (va_runIN (As := []) (rest := [.ref q, .int (nI i), .ref a]) ⟨hx, hb, hml, hown, hts⟩ (i_leaf2 l q) ⟨va_cnB 0 hts (mx_good (fun w hw => by rcases List.mem_cons.mp hw with rfl | hw; exact wd_5_3; exact hw)) rfl rfl rfl hG.1 (hts _ wd_4_20) (by decide +kernel) ⟨hR.1, hR.2⟩, rfl, hts _ wd_5_2⟩ ⟨fun _ _ _ _ q => q, fun U hU hW => ⟨rfl, trivial⟩⟩ rfl rfl hl.1 rfl (lv_room (Nat.le_of_ble_eq_true rfl)) dX3_init_33 ⟨by omega, by omega⟩) hS1 (fun _ _ h => h.elim) (fun _ h => h.elim) (fun u t H2 locs2 ht hvm hw hB hz1 hk1 hS2 => ?_)
    have hP2 := hP1.kept (fun k0 q0 hq0 => hk1 q0.1 ((hP1 k0 q0 hq0).lt) (fun h => h))
    refine va_astq hx hb hK hP2 hD1 hS2 P.length 2 (P.length + 1 + i) 2 mid_at rfl (mid_in (by have := tailW_at (b := 0) (e := .inr (2, vSeg0)) (f := fset g i q) (show i < i + 1 by omega); rwa [Nat.zero_add, fset_s] at this)) rfl (mx_lit (jA_in (n := i) (N := 12) (by omega) (by decide))) dX3_init_36 (fun H3 locs3 hP3 hD3 hS3 => ?_)
    rw [mid_set, jA_clamp (by omega), upto_s, Nat.zero_add] at hP3 hD3
    refine lv_iinc (v := nI (i + 1)) (lv' := [(1, .int (nI (i + 1))), (0, .ref h)]) hx hb dX3_init_37 hl (k := 1) rfl (by rw [← jA_1]; rfl) (by decide) rfl (fun ls hl => ?_)
    refine lv_goto (tgt := 15) hx hb dX3_init_40 (by decide) ?_
    refine ih (i + 1) (fset g i q) H3 locs3 ls (cells + 1 + 0) (slots + 6 + 0) (by omega) (by omega) (by omega) hP3 hD3 hS3 (lv_sub hl [1, 0] rfl) (fun g H locs ls a1 a2 a3 a4 => ?_)
    have := kk g H locs ls a1 a2 a3 a4
    rwa [show cells + (k + 1) = cells + 1 + 0 + k by omega, show slots + 6 * (k + 1) = slots + 6 + 0 + 6 * k by omega] at this

set_option maxHeartbeats 4000000 in
set_option maxRecDepth 100000 in
theorem n3_loop53 (hx : p.tables.exec = Jvm.exec) (hb : cd.code = cX3_init) (hml : cd.maxLocals = 2) (hown : s.vm.findClass RX3 = some m.cls) (hts : ∀ w ∈ wsL_law, w.before args s = true) (hK : va_K D vwCl (mtY Y) s) (hG : nG s) (hA : ∀ q : Nat, s.heap.size ≤ q → A q) (hR : 2 ≤ R.frames ∧ 32 ≤ R.locals) {P : va_W} {a h : Nat} {fs : List Value} (hP0 : P[0]? = some (h, .inr (3, fs))) (hfs : fs[1]? = some (.ref a)) : ∀ (k i : Nat) (g : Nat → Nat) (H : Heap) (locs : List Loc) (ls : Array Slot) (cells slots : Nat), i + k = 4 → cells + k ≤ R.cells → slots + 10 * k ≤ R.slots → va_P D vwCl (P ++ ((a, rwq (Y 4) 4 (upto i 0 g)) :: tailW 0 (.inr (4, vTr0)) g i)) H → va_D A (P ++ ((a, rwq (Y 4) 4 (upto i 0 g)) :: tailW 0 (.inr (4, vTr0)) g i)) → va_S A s.heap H locs → lv_has ls 2 [(0, .ref h), (1, .int (nI i))] →
    (∀ (g : Nat → Nat) (H : Heap) (locs : List Loc) (ls : Array Slot), va_P D vwCl (P ++ ((a, rwq (Y 4) 4 (upto 4 0 g)) :: tailW 0 (.inr (4, vTr0)) g 4)) H → va_D A (P ++ ((a, rwq (Y 4) 4 (upto 4 0 g)) :: tailW 0 (.inr (4, vTr0)) g 4)) → va_S A s.heap H locs → lv_has ls 2 [(0, .ref h)] → W p l e R s m args below meth cd H locs (cells + k) (slots + 10 * k) Q (F0 m 81 ls [])) →
    W p l e R s m args below meth cd H locs cells slots Q (F0 m 53 ls []) := by
  intro k
  induction k with
  | zero =>
    intro i g H locs ls cells slots hik hc1 hs1 hP hD hS hl kk
    have e1 : i = 4 := by omega
    subst e1
    refine lv_iload_n hx hb dX3_init_53 rfl (lv_at hl 1 rfl) ?_
    refine lv_aload_n hx hb dX3_init_54 rfl (lv_at hl 0 rfl) ?_
    refine va_get (ci := 3) (C := RX3) (T := TX3) (N := 11) hx hb hts inlX3 hown hK hP 0 (mid_pre hP0) rfl 1 (by decide) (hts _ wd_4_22) (fun _ h => h) hfs dX3_init_55 ?_
    refine va_alen (v := (4 : Int32)) hx hb hK hP P.length 4 mid_at rfl rfl dX3_init_58 ?_
    refine lv_icmp_ge (tgt := 81) hx hb dX3_init_59 (by decide) (fun _ => ?_) (fun h1 => absurd (show (4 : Int32) ≤ nI 4 by decide) h1)
    exact kk g H locs ls hP hD hS (lv_sub hl [0] rfl)
  | succ k ih =>
    intro i g H locs ls cells slots hik hc1 hs1 hP hD hS hl kk
    refine lv_iload_n hx hb dX3_init_53 rfl (lv_at hl 1 rfl) ?_
    refine lv_aload_n hx hb dX3_init_54 rfl (lv_at hl 0 rfl) ?_
    refine va_get (ci := 3) (C := RX3) (T := TX3) (N := 11) hx hb hts inlX3 hown hK hP 0 (mid_pre hP0) rfl 1 (by decide) (hts _ wd_4_22) (fun _ h => h) hfs dX3_init_55 ?_
    refine va_alen (v := (4 : Int32)) hx hb hK hP P.length 4 mid_at rfl rfl dX3_init_58 ?_
    refine lv_icmp_ge (tgt := 81) hx hb dX3_init_59 (by decide) (fun h1 => absurd h1 (jlt (n := 4) (by decide) (by omega))) (fun _ => ?_)
    refine lv_aload_n hx hb dX3_init_62 rfl (lv_at hl 0 rfl) ?_
    refine va_get (ci := 3) (C := RX3) (T := TX3) (N := 11) hx hb hts inlX3 hown hK hP 0 (mid_pre hP0) rfl 1 (by decide) (hts _ wd_4_22) (fun _ h => h) hfs dX3_init_63 ?_
    refine lv_iload_n hx hb dX3_init_66 rfl (lv_at hl 1 rfl) ?_
    refine va_new (ci := 4) (fs := vTr0) (C := RX4) (T := TX4) (N := 10) hx hb hts inlX4 tyX4 tyX4_ok hown (hts _ wd_4_21) (hts _ wd_4_23) (hts _ wd_5_0) hK hP hD hS hA rfl (fun j hj => by rcases (show j = 0 ∨ j = 1 ∨ j = 2 ∨ j = 3 ∨ j = 4 ∨ j = 5 ∨ j = 6 ∨ j = 7 ∨ j = 8 ∨ j = 9 by omega) with rfl | rfl | rfl | rfl | rfl | rfl | rfl | rfl | rfl | rfl <;> rfl) (by omega) (by omega) dX3_init_67 (fun q H1 hP1 hD1 hS1 => ?_)
    rw [List.append_assoc, List.cons_append, tailW_s, Nat.zero_add] at hP1 hD1
    refine lv_dup hx hb dX3_init_70 rfl ?_
    refine va_callv (va_runIN (As := []) (rest := [.ref q, .int (nI i), .ref a]) ⟨hx, hb, hml, hown, hts⟩ (i_leaf4 l q) ⟨va_cnB 0 hts (mx_good (fun w hw => by rcases List.mem_cons.mp hw with rfl | hw; exact wd_5_6; exact hw)) rfl rfl rfl hG.2.1 (hts _ wd_5_0) (by decide +kernel) ⟨hR.1, hR.2⟩, rfl, hts _ wd_5_5⟩ ⟨fun _ _ _ _ q => q, fun U hU hW => ⟨rfl, trivial⟩⟩ rfl rfl hl.1 rfl (lv_room (Nat.le_of_ble_eq_true rfl)) dX3_init_71 ⟨by omega, by omega⟩) hS1 (fun _ _ h => h.elim) (fun _ h => h.elim) (fun u t H2 locs2 ht hvm hw hB hz1 hk1 hS2 => ?_)
    have hP2 := hP1.kept (fun k0 q0 hq0 => hk1 q0.1 ((hP1 k0 q0 hq0).lt) (fun h => h))
    refine va_astq hx hb hK hP2 hD1 hS2 P.length 4 (P.length + 1 + i) 4 mid_at rfl (mid_in (by have := tailW_at (b := 0) (e := .inr (4, vTr0)) (f := fset g i q) (show i < i + 1 by omega); rwa [Nat.zero_add, fset_s] at this)) rfl (mx_lit (jA_in (n := i) (N := 4) (by omega) (by decide))) dX3_init_74 (fun H3 locs3 hP3 hD3 hS3 => ?_)
    rw [mid_set, jA_clamp (by omega), upto_s, Nat.zero_add] at hP3 hD3
    refine lv_iinc (v := nI (i + 1)) (lv' := [(1, .int (nI (i + 1))), (0, .ref h)]) hx hb dX3_init_75 hl (k := 1) rfl (by rw [← jA_1]; rfl) (by decide) rfl (fun ls hl => ?_)
    refine lv_goto (tgt := 53) hx hb dX3_init_78 (by decide) ?_
    refine ih (i + 1) (fset g i q) H3 locs3 ls (cells + 1 + 0) (slots + 10 + 0) (by omega) (by omega) (by omega) hP3 hD3 hS3 (lv_sub hl [1, 0] rfl) (fun g H locs ls a1 a2 a3 a4 => ?_)
    have := kk g H locs ls a1 a2 a3 a4
    rwa [show cells + (k + 1) = cells + 1 + 0 + k by omega, show slots + 10 * (k + 1) = slots + 10 + 0 + 10 * k by omega] at this
end NST
