/-! State(): the settings, the constructor -/
def wset (i : Nat) : Nat → Int32 := fun j => if j < i then mStat 0 j else 0
theorem wset_s (i : Nat) (hi : i < 3) : upd (wset i) i (mStat 0 i) = wset (i + 1) := by
  funext j
  unfold upd wset
  by_cases h : j = i
  · subst h; rw [if_pos rfl, if_pos (by omega)]
  · rw [if_neg h]
    by_cases h2 : j < i
    · rw [if_pos h2, if_pos (by omega)]
    · rw [if_neg h2, if_neg (by omega)]
/-- the first values -/
def nF (A : Nat → Prop) (s : State) (H : Heap) : Prop := ∃ t : Nat, va_Z "PeatRailway" "FIRST_VALUE" "[I" (.ref t) A s H ∧ va_T .int t 3 (fun j => .int (mStat 0 j)) A s H
section NSU
variable {p : Program} {l : Launch} {e : Env} {R : Room} {s : State} {m : MethodId} {args : Array Value} {below : List Frame} {meth : Method} {cd : Code} {Q : State → Prop} {D : va_G} {Y : Nat → ClassId} {A : Nat → Prop}
set_option maxHeartbeats 4000000 in
set_option maxRecDepth 100000 in
theorem n3_loop90 (hx : p.tables.exec = Jvm.exec) (hb : cd.code = cX3_init) (hml : cd.maxLocals = 2) (hown : s.vm.findClass RX3 = some m.cls) (hts : ∀ w ∈ wsL_law, w.before args s = true) (hK : va_K D vwCl (mtY Y) s) (hG : nG s) (hF : nF A s s.heap) {P : va_W} {a h : Nat} {fs : List Value} (hP0 : P[0]? = some (h, .inr (3, fs))) (hfs : fs[2]? = some (.ref a)) : ∀ (k i : Nat) (H : Heap) (locs : List Loc) (ls : Array Slot) (cells slots : Nat), i + k = 3 → va_P D vwCl (P ++ ((a, .inl (Y 1, 3, .inl (wset i))) :: [])) H → va_D A (P ++ ((a, .inl (Y 1, 3, .inl (wset i))) :: [])) → va_S A s.heap H locs → lv_has ls 2 [(0, .ref h), (1, .int (nI i))] →
    (∀ (H : Heap) (locs : List Loc) (ls : Array Slot), va_P D vwCl (P ++ ((a, .inl (Y 1, 3, .inl (wset 3))) :: [])) H → va_D A (P ++ ((a, .inl (Y 1, 3, .inl (wset 3))) :: [])) → va_S A s.heap H locs → lv_has ls 2 [(0, .ref h)] → W p l e R s m args below meth cd H locs cells slots Q (F0 m 124 ls [])) →
    W p l e R s m args below meth cd H locs cells slots Q (F0 m 90 ls []) := by
  obtain ⟨t, hZ, hT⟩ := hF
  intro k
  induction k with
  | zero =>
    intro i H locs ls cells slots hik hP hD hS hl kk
    have e1 : i = 3 := by omega
    subst e1
    refine lv_iload_n hx hb dX3_init_90 rfl (lv_at hl 1 rfl) ?_
    refine lv_aload_n hx hb dX3_init_91 rfl (lv_at hl 0 rfl) ?_
    refine va_get (ci := 3) (C := RX3) (T := TX3) (N := 11) hx hb hts inlX3 hown hK hP 0 (mid_pre hP0) rfl 2 (by decide) (hts _ wd_5_1) (fun _ h => h) hfs dX3_init_92 ?_
    refine va_alen (v := (3 : Int32)) hx hb hK hP P.length 1 mid_at rfl rfl dX3_init_95 ?_
    refine lv_icmp_ge (tgt := 124) hx hb dX3_init_96 (by decide) (fun _ => ?_) (fun h1 => absurd (show (3 : Int32) ≤ nI 3 by decide) h1)
    exact kk H locs ls hP hD hS (lv_sub hl [0] rfl)
  | succ k ih =>
    intro i H locs ls cells slots hik hP hD hS hl kk
    refine lv_iload_n hx hb dX3_init_90 rfl (lv_at hl 1 rfl) ?_
    refine lv_aload_n hx hb dX3_init_91 rfl (lv_at hl 0 rfl) ?_
    refine va_get (ci := 3) (C := RX3) (T := TX3) (N := 11) hx hb hts inlX3 hown hK hP 0 (mid_pre hP0) rfl 2 (by decide) (hts _ wd_5_1) (fun _ h => h) hfs dX3_init_92 ?_
    refine va_alen (v := (3 : Int32)) hx hb hK hP P.length 1 mid_at rfl rfl dX3_init_95 ?_
    refine lv_icmp_ge (tgt := 124) hx hb dX3_init_96 (by decide) (fun h1 => absurd h1 (jlt (n := 3) (by decide) (by omega))) (fun _ => ?_)
    refine lv_iload_n hx hb dX3_init_99 rfl (lv_at hl 1 rfl) ?_
    refine va_getsN hx hb hZ hS hown (va_Nw.use rfl hG.2.2.1) (fun _ h => h) dX3_init_100 ?_
    refine va_tlen (v := (3 : Int32)) hx hb hT hS rfl dX3_init_103 ?_
    refine lv_icmp_ge (tgt := 124) hx hb dX3_init_104 (by decide) (fun h1 => absurd h1 (jlt (n := 3) (by decide) (by omega))) (fun _ => ?_)
    refine lv_aload_n hx hb dX3_init_107 rfl (lv_at hl 0 rfl) ?_
    refine va_get (ci := 3) (C := RX3) (T := TX3) (N := 11) hx hb hts inlX3 hown hK hP 0 (mid_pre hP0) rfl 2 (by decide) (hts _ wd_5_1) (fun _ h => h) hfs dX3_init_108 ?_
    refine lv_iload_n hx hb dX3_init_111 rfl (lv_at hl 1 rfl) ?_
    refine va_getsN hx hb hZ hS hown (va_Nw.use rfl hG.2.2.1) (fun _ h => h) dX3_init_112 ?_
    refine lv_iload_n hx hb dX3_init_115 rfl (lv_at hl 1 rfl) ?_
    refine va_ti (v := .int (mStat 0 i)) hx hb hT hS (mx_lit (jA_in (n := i) (N := 3) (by omega) (by decide))) (by rw [jA_clamp (by omega)]) dX3_init_116 ?_
    refine va_iast hx hb hK hP hD hS P.length 1 mid_at rfl (mx_lit (jA_in (n := i) (N := 3) (by omega) (by decide))) dX3_init_117 (fun H3 locs3 hP3 hD3 hS3 => ?_)
    rw [mid_set, jA_clamp (by omega), wset_s i (by omega)] at hP3 hD3
    refine lv_iinc (v := nI (i + 1)) (lv' := [(1, .int (nI (i + 1))), (0, .ref h)]) hx hb dX3_init_118 hl (k := 1) rfl (by rw [← jA_1]; rfl) (by decide) rfl (fun ls hl => ?_)
    refine lv_goto (tgt := 90) hx hb dX3_init_121 (by decide) ?_
    exact ih (i + 1) H3 locs3 ls cells slots (by omega) hP3 hD3 hS3 (lv_sub hl [1, 0] rfl) kk
end NSU
set_option maxHeartbeats 4000000 in
set_option maxRecDepth 100000 in
theorem i_State (l : Launch) (D : va_G) (Y : Nat → ClassId) (h sz : Nat) : Met l yX3_init (mWs yX3_init cX3_init 2 none) ({ frames := 2, cells := 19, slots := 131, locals := 45 }) (va_Pc [.ref h] (fun U => U.heap.size = sz ∧ va_P D vwCl [(h, .inr (3, vSt0 .null .null .null))] U.heap ∧ va_K D vwCl (mtY Y) U ∧ nG U ∧ nF (va_A [(h, .inr (3, vSt0 .null .null .null))] sz) U U.heap)) (va_Qv (fun u : Nat → Nat => u 0 = h) (fun u t => stOk D Y (va_A [(h, .inr (3, vSt0 .null .null .null))] sz) u t.heap) (va_A [(h, .inr (3, vSt0 .null .null .null))] sz)) 19 131 (va_A [(h, .inr (3, vSt0 .null .null .null))] sz) := by
  refine Met.ofW (cc := cX3_init) (maxL := 2) (ret := none) (by decide) rfl ?_
  intro p e s m args below meth c s₁ B hml hv
  obtain ⟨rfl, hsz, hP, hK, hG, hF⟩ := hv
  have hx := B.exec
  have hb := B.bytes
  have hr := B.returns
  have hts : ∀ w ∈ wsL_law, w.before _ s = true := fun w hw => atoms_spec (ws := mWs yX3_init cX3_init 2 none) B.pre w (List.mem_cons_of_mem _ hw)
  have hown : s.vm.findClass RX3 = some m.cls := findClass_of_methodNamed B.named
  have hlocks := B.notSynchronized
  have hin : meth.name = "<init>" := (name_of_methodNamed B.named B.method).1
  subst hsz
  have hD : va_D (va_A [(h, .inr (3, vSt0 .null .null .null))] s.heap.size) [(h, .inr (3, vSt0 .null .null .null))] := by
    refine ⟨fun i j p q hi hj _ => ?_, fun k q hk => va_A.in hk⟩
    have h1 : i < 1 := (List.getElem?_eq_some_iff.mp hi).1
    have h2 : j < 1 := (List.getElem?_eq_some_iff.mp hj).1
    omega
  generalize hAe : va_A [(h, .inr (3, vSt0 .null .null .null))] s.heap.size = A at hD hF ⊢
  have hA : ∀ q : Nat, s.heap.size ≤ q → A q := fun q h => by rw [← hAe]; exact Or.inr h
  have hS : va_S A s.heap s.heap [] := va_S.rf
  have hl := lv_entry ([.ref h]) (n := 2) (Nat.le_of_ble_eq_true rfl)
  rw [lg_entry_eq]
  generalize (lg_sl ([.ref h]) ++ List.replicate (2 - (lg_sl ([.ref h])).length) Slot.unset).toArray = ls at hl ⊢
  have hl : lv_has ls 2 [(0, .ref h)] := hl
  refine lv_aload_n hx hb dX3_init_0 rfl (lv_at hl 0 rfl) ?_
  refine W.objInit hx hb hown (hts _ wd_4_16) (hts _ wd_1_9) (hts _ wd_1_10) rfl (by rw [hml]; exact hl.1) rfl dX3_init_1 (Nat.le_of_ble_eq_true rfl) (Nat.le_of_ble_eq_true rfl) ?_
  refine W.eq (g2 := F0 m 4 ls []) rfl ?_
  refine lv_aload_n hx hb dX3_init_4 rfl (lv_at hl 0 rfl) ?_
  refine lv_bipush (v := (12 : Int32)) hx hb dX3_init_5 (by decide) ?_
  refine va_newq (C := "PeatRailway$Segment") (N' := 12) hx hb hown (hts _ wd_4_17) hG.2.2.2.1 hK hP hD hS hA (by decide) (by decide) (by decide) (Nat.le_of_ble_eq_true rfl) (Nat.le_of_ble_eq_true rfl) dX3_init_7 (fun a1 cA H hK2 hP hD hS => ?_)
  rw [findRow (t := 2) hK rfl hK2] at hP hD
  refine va_putF (D := D) (ci := 3) (v := .ref a1) (ty := .array (.object "PeatRailway$Segment")) (C := RX3) (T := TX3) (N := 11) hx hb hts inlX3 tyX3 tyX3_ok nmX3 hown hK hP hD hS 0 rfl rfl 0 (by decide) (hts _ wd_4_18) (fun _ h9 => h9) rfl hin rfl (by decide +kernel) rfl rfl (Nat.le_of_ble_eq_true rfl) dX3_init_10 (fun H locs hP hD hS => ?_)
  have hP : va_P D vwCl ([(h, Sum.inr (3, vSt0 (.ref a1) .null .null))] ++ ((a1, rwq (Y 2) 12 (upto 0 0 (fun _ => 0))) :: tailW 0 (.inr (2, vSeg0)) (fun _ => 0) 0)) H := by rw [upto_0]; exact hP
  have hD : va_D A ([(h, Sum.inr (3, vSt0 (.ref a1) .null .null))] ++ ((a1, rwq (Y 2) 12 (upto 0 0 (fun _ => 0))) :: tailW 0 (.inr (2, vSeg0)) (fun _ => 0) 0)) := by rw [upto_0]; exact hD
  refine lv_iconst (v := (0 : Int32)) hx hb dX3_init_13 (by decide) ?_
  refine lv_istore_n (lv' := [(1, .int 0), (0, .ref h)]) hx hb dX3_init_14 rfl hl (by decide) rfl (fun ls hl => ?_)
  refine n3_loop15 hx hb hml hown hts hK hG hA ⟨Nat.le_refl _, Nat.le_of_ble_eq_true rfl⟩ (P := [(h, Sum.inr (3, vSt0 (.ref a1) .null .null))]) rfl rfl 12 0 (fun _ => 0) H locs ls _ _ rfl (Nat.le_of_ble_eq_true rfl) (Nat.le_of_ble_eq_true rfl) hP hD hS (lv_sub hl [1, 0] rfl) (fun g1 H locs ls hP hD hS hl => ?_)
  refine lv_aload_n hx hb dX3_init_43 rfl (lv_at hl 0 rfl) ?_
  refine lv_iconst (v := (4 : Int32)) hx hb dX3_init_44 (by decide) ?_
  refine va_newq (C := "PeatRailway$Train") (N' := 4) hx hb hown (hts _ wd_4_21) hG.2.2.2.2.2 hK hP hD hS hA (by decide) (by decide) (by decide) (Nat.le_of_ble_eq_true rfl) (Nat.le_of_ble_eq_true rfl) dX3_init_45 (fun a2 cA H hK2 hP hD hS => ?_)
  rw [findRow (t := 4) hK rfl hK2] at hP hD
  refine va_putF (D := D) (ci := 3) (v := .ref a2) (ty := .array (.object "PeatRailway$Train")) (C := RX3) (T := TX3) (N := 11) hx hb hts inlX3 tyX3 tyX3_ok nmX3 hown hK hP hD hS 0 rfl rfl 1 (by decide) (hts _ wd_4_22) (fun _ h9 => h9) rfl hin rfl (by decide +kernel) rfl rfl (Nat.le_of_ble_eq_true rfl) dX3_init_48 (fun H locs hP hD hS => ?_)
  have hP : va_P D vwCl (([(h, Sum.inr (3, vSt0 (.ref a1) (.ref a2) .null))] ++ ((a1, rwq (Y 2) 12 (upto 12 0 g1)) :: tailW 0 (.inr (2, vSeg0)) g1 12)) ++ ((a2, rwq (Y 4) 4 (upto 0 0 (fun _ => 0))) :: tailW 0 (.inr (4, vTr0)) (fun _ => 0) 0)) H := by rw [upto_0]; exact hP
  have hD : va_D A (([(h, Sum.inr (3, vSt0 (.ref a1) (.ref a2) .null))] ++ ((a1, rwq (Y 2) 12 (upto 12 0 g1)) :: tailW 0 (.inr (2, vSeg0)) g1 12)) ++ ((a2, rwq (Y 4) 4 (upto 0 0 (fun _ => 0))) :: tailW 0 (.inr (4, vTr0)) (fun _ => 0) 0)) := by rw [upto_0]; exact hD
  refine lv_iconst (v := (0 : Int32)) hx hb dX3_init_51 (by decide) ?_
  refine lv_istore_n (lv' := [(1, .int 0), (0, .ref h)]) hx hb dX3_init_52 rfl hl (by decide) rfl (fun ls hl => ?_)
  refine n3_loop53 hx hb hml hown hts hK hG hA ⟨Nat.le_refl _, Nat.le_of_ble_eq_true rfl⟩ (P := [(h, Sum.inr (3, vSt0 (.ref a1) (.ref a2) .null))] ++ ((a1, rwq (Y 2) 12 (upto 12 0 g1)) :: tailW 0 (.inr (2, vSeg0)) g1 12)) rfl rfl 4 0 (fun _ => 0) H locs ls _ _ rfl (Nat.le_of_ble_eq_true rfl) (Nat.le_of_ble_eq_true rfl) hP hD hS (lv_sub hl [1, 0] rfl) (fun g2 H locs ls hP hD hS hl => ?_)
  refine lv_aload_n hx hb dX3_init_81 rfl (lv_at hl 0 rfl) ?_
  refine lv_iconst (v := (3 : Int32)) hx hb dX3_init_82 (by decide) ?_
  refine va_newa (atype := .int) (ty := .int) (N' := 3) (a0 := (3, .inl (fun _ => 0))) hx hb (hts _ wd_1_3) rfl hK hP hD hS hA (fun _ => rfl) (by decide) (by decide) (by decide) (Nat.le_of_ble_eq_true rfl) (Nat.le_of_ble_eq_true rfl) dX3_init_83 (fun a3 cA H hK2 hP hD hS => ?_)
  rw [findRow (t := 1) hK rfl hK2] at hP hD
  refine va_putF (D := D) (ci := 3) (v := .ref a3) (ty := .array .int) (C := RX3) (T := TX3) (N := 11) hx hb hts inlX3 tyX3 tyX3_ok nmX3 hown hK hP hD hS 0 rfl rfl 2 (by decide) (hts _ wd_5_1) (fun _ h9 => h9) rfl hin rfl (by decide +kernel) rfl rfl (Nat.le_of_ble_eq_true rfl) dX3_init_85 (fun H locs hP hD hS => ?_)
  have hw0 : wset 0 = fun _ => 0 := by funext j; unfold wset; rw [if_neg (by omega)]
  have hP : va_P D vwCl ((([(h, Sum.inr (3, vSt0 (.ref a1) (.ref a2) (.ref a3)))] ++ ((a1, rwq (Y 2) 12 (upto 12 0 g1)) :: tailW 0 (.inr (2, vSeg0)) g1 12)) ++ ((a2, rwq (Y 4) 4 (upto 4 0 g2)) :: tailW 0 (.inr (4, vTr0)) g2 4)) ++ ((a3, .inl (Y 1, 3, .inl (wset 0))) :: [])) H := by rw [hw0]; exact hP
  have hD : va_D A ((([(h, Sum.inr (3, vSt0 (.ref a1) (.ref a2) (.ref a3)))] ++ ((a1, rwq (Y 2) 12 (upto 12 0 g1)) :: tailW 0 (.inr (2, vSeg0)) g1 12)) ++ ((a2, rwq (Y 4) 4 (upto 4 0 g2)) :: tailW 0 (.inr (4, vTr0)) g2 4)) ++ ((a3, .inl (Y 1, 3, .inl (wset 0))) :: [])) := by rw [hw0]; exact hD
  refine lv_iconst (v := (0 : Int32)) hx hb dX3_init_88 (by decide) ?_
  refine lv_istore_n (lv' := [(1, .int 0), (0, .ref h)]) hx hb dX3_init_89 rfl hl (by decide) rfl (fun ls hl => ?_)
  refine n3_loop90 hx hb hml hown hts hK hG hF (P := ([(h, Sum.inr (3, vSt0 (.ref a1) (.ref a2) (.ref a3)))] ++ ((a1, rwq (Y 2) 12 (upto 12 0 g1)) :: tailW 0 (.inr (2, vSeg0)) g1 12)) ++ ((a2, rwq (Y 4) 4 (upto 4 0 g2)) :: tailW 0 (.inr (4, vTr0)) g2 4)) rfl rfl 3 0 H locs ls _ _ rfl hP hD hS (lv_sub hl [1, 0] rfl) (fun H locs ls hP hD hS hl => ?_)
  have hO := stOk_of (w := wset 3) (fun j hj => if_pos hj) hP hD
  exact W.vret hx hb hr (fun t ht hW => ⟨⟨stU h a1 a2 a3 g1 g2, rfl, rfl, by show stOk D Y A _ t.heap; rw [ht]; exact hO⟩, hS.F ht⟩) hS.2.2 dX3_init_124
