/-! CONSTRUCTOR PeatRailwayModel() -/
abbrev vMo0 (a b c d f : Value) : List Value := [a, b, .int 0, c, .int 0, d, .int 0, f, .int 0, .int 0, .long 0]
def moU (h a b c d f : Nat) : Nat → Nat := fun r => if r = 246 then h else if r = 247 then a else if r = 248 then b else if r = 249 then c else if r = 250 then d else f
abbrev moI : List Nat := [246, 247, 248, 249, 250, 251]
def g0 : mM := fun _ _ => 0
abbrev zrow (Y : Nat → ClassId) (n : Nat) : va_E := .inl (Y 1, n, .inl (fun _ => 0))
theorem mo_ws (D : va_G) (Y : Nat → ClassId) (h a b c d f : Nat) : mws (D, Y, moU h a b c d f, moI) g0 = [(h, .inr (6, vMo0 (.ref a) (.ref b) (.ref c) (.ref d) (.ref f))), (a, zrow Y 82), (b, zrow Y 82), (c, zrow Y 656), (d, zrow Y 164), (f, zrow Y 40)] := by
  have e : mLong 0 0 = 0 := by decide
  unfold mws
  show [(h, mcell _ g0 246), (a, mcell _ g0 247), (b, mcell _ g0 248), (c, mcell _ g0 249), (d, mcell _ g0 250), (f, mcell _ g0 251)] = _
  have h6 : mcell (D, Y, moU h a b c d f, moI) g0 246 = .inr (6, vMo0 (.ref a) (.ref b) (.ref c) (.ref d) (.ref f)) := by
    show Sum.inr (6, f_Mo (moU h a b c d f) g0 246) = _
    unfold f_Mo
    rw [show mLong (g0 246 10) (g0 246 11) = 0 from e]
    rfl
  rw [h6]
  rfl
def moSv (i : Nat) : Int32 := if i = 3 then 2 else if i = 0 then 0 else if i = 6 then 0 else 4
def moFl (i : Nat) : Int32 := if i % 3 = 0 then 1 else 0
def moW : Nat → mR
  | 0 => upd (fun _ => 0) 72 7
  | i + 1 => upd (upd (upd (moW i) (3 * i) (moSv i)) (3 * i + 1) (if moFl i = 0 then 0 else 1)) (3 * i + 2) 0
def gMo : mM := sr g0 (upd (upd (moW 7) 75 300) 76 5)
theorem irem3 : ∀ i : Fin 7, (nI i.1 - nI i.1 / 3 * 3 = 0 ↔ i.1 % 3 = 0) := by decide
section NMO
variable {p : Program} {l : Launch} {e : Env} {R : Room} {s : State} {m : MethodId} {args : Array Value} {below : List Frame} {meth : Method} {cd : Code} {Q : State → Prop} {E : mE} {A : Nat → Prop}
set_option maxHeartbeats 4000000 in
set_option maxRecDepth 100000 in
theorem n6_loop57 (X : nX p s m args cd cX6_init 2 RX6 A) (hK : mK E s) (hc : mMo E 246) (hR : 1 ≤ R.frames ∧ 23 ≤ R.locals) : ∀ (k i : Nat) (H : Heap) (locs : List Loc) (ls : Array Slot) (cells slots : Nat), i + k = 7 → cells ≤ R.cells → slots ≤ R.slots → mP E (sr g0 (moW i)) H → va_D A (mws E (sr g0 (moW i))) → va_S A s.heap H locs → lv_has ls 2 [(0, .ref (mad E 246)), (1, .int (nI i))] →
    (∀ (H : Heap) (locs : List Loc) (ls : Array Slot), mP E (sr g0 (moW 7)) H → va_D A (mws E (sr g0 (moW 7))) → va_S A s.heap H locs → lv_has ls 2 [(0, .ref (mad E 246))] → W p l e R s m args below meth cd H locs cells slots Q (F0 m 109 ls [])) →
    W p l e R s m args below meth cd H locs cells slots Q (F0 m 57 ls []) := by
  have hx := X.1
  have hb := X.2.1
  intro k
  induction k with
  | zero =>
    intro i H locs ls cells slots hik hc1 hs1 hP hD hS hl kk
    have e1 : i = 7 := by omega
    subst e1
    refine lv_iload_n hx hb dX6_init_57 rfl (lv_at hl 1 rfl) ?_
    refine lv_bipush (v := (7 : Int32)) hx hb dX6_init_58 (by decide) ?_
    refine lv_icmp_ge (tgt := 109) hx hb dX6_init_60 (by decide) (fun _ => ?_) (fun h1 => absurd (show (7 : Int32) ≤ nI 7 by decide) h1)
    exact kk H locs ls hP hD hS (lv_sub hl [0] rfl)
  | succ k ih =>
    intro i H locs ls cells slots hik hc1 hs1 hP hD hS hl kk
    refine lv_iload_n hx hb dX6_init_57 rfl (lv_at hl 1 rfl) ?_
    refine lv_bipush (v := (7 : Int32)) hx hb dX6_init_58 (by decide) ?_
    refine lv_icmp_ge (tgt := 109) hx hb dX6_init_60 (by decide) (fun h1 => absurd h1 (jlt (n := 7) (by decide) (by omega))) (fun _ => ?_)
    refine lv_aload_n hx hb dX6_init_63 rfl (lv_at hl 0 rfl) ?_
    refine lv_iload_n hx hb dX6_init_64 rfl (lv_at hl 1 rfl) ?_
    have c100 : ∀ f : Int32, f = moFl i → W p l e R s m args below meth cd H locs cells slots Q (F0 m 100 ls [.int f, .int (moSv i), .int (nI i), .ref (mad E 246)]) := fun f hf => by
      have hT : x6_putSegment (nI i) (moSv i) f (sr g0 (moW i)) = some (sr g0 (moW (i + 1))) := by
        rw [putSeg _ _ (by omega), hf]; rfl
      refine nx_callV (As := [.int (nI i), .int (moSv i), .int f]) (rest := []) (st1 := []) (C := RX6) (T := TX6) (N := 11) (ci := 6) X hK (mA_of hD) hP hS hl.1 (c6_putSegment l E (mJ_of hD) hc _ _ _ _ _ hT) wd_8_4 wd_8_5 wd_8_6 wd_1_5 wd_8_7 hd6_putSegment ⟨hR.1, hR.2⟩ ⟨hc1, hs1⟩ hc.i (hc.c _) rfl (Nat.le_of_ble_eq_true rfl) rfl rfl dX6_init_100 (fun H1 locs1 hP1 hz hk hS1 => ?_)
      refine lv_iinc (v := nI (i + 1)) (lv' := [(1, .int (nI (i + 1))), (0, .ref (mad E 246))]) hx hb dX6_init_103 hl (k := 1) rfl (by rw [← jA_1]; rfl) (by decide) rfl (fun ls hl => ?_)
      refine lv_goto (tgt := 57) hx hb dX6_init_106 (by decide) ?_
      exact ih (i + 1) H1 locs1 ls cells slots (by omega) hc1 hs1 hP1 (mD_to hD) hS1 (lv_sub hl [1, 0] rfl) kk
    have c89 : ∀ v : Int32, v = moSv i → W p l e R s m args below meth cd H locs cells slots Q (F0 m 89 ls [.int v, .int (nI i), .ref (mad E 246)]) := fun v hv => by
      subst hv
      refine lv_iload_n hx hb dX6_init_89 rfl (lv_at hl 1 rfl) ?_
      refine lv_iconst (v := (3 : Int32)) hx hb dX6_init_90 (by decide) ?_
      refine lv_irem hx hb dX6_init_91 (by decide) ?_
      refine lv_if_ne (tgt := 99) hx hb dX6_init_92 (by decide) (fun h1 => ?_) (fun h1 => ?_)
      · refine lv_iconst (v := (0 : Int32)) hx hb dX6_init_99 (by decide) ?_
        refine c100 0 ?_
        unfold moFl
        rw [if_neg (fun z => h1 ((irem3 ⟨i, by omega⟩).mpr z))]
      · refine lv_iconst (v := (1 : Int32)) hx hb dX6_init_95 (by decide) ?_
        refine lv_goto (tgt := 100) hx hb dX6_init_96 (by decide) ?_
        refine c100 1 ?_
        unfold moFl
        rw [if_pos ((irem3 ⟨i, by omega⟩).mp h1)]
    refine lv_iload_n hx hb dX6_init_65 rfl (lv_at hl 1 rfl) ?_
    refine lv_iconst (v := (3 : Int32)) hx hb dX6_init_66 (by decide) ?_
    refine lv_icmp_ne (tgt := 74) hx hb dX6_init_67 (by decide) (fun h1 => ?_) (fun h1 => ?_)
    · have n3 : i ≠ 3 := fun z => h1 (by rw [z]; rfl)
      refine lv_iload_n hx hb dX6_init_74 rfl (lv_at hl 1 rfl) ?_
      have c84 : i = 0 ∨ i = 6 → W p l e R s m args below meth cd H locs cells slots Q (F0 m 84 ls [.int (nI i), .ref (mad E 246)]) := fun z => by
        refine lv_iconst (v := (0 : Int32)) hx hb dX6_init_84 (by decide) ?_
        refine lv_goto (tgt := 89) hx hb dX6_init_85 (by decide) ?_
        refine c89 0 ?_
        rcases z with rfl | rfl <;> rfl
      refine lv_if_eq (tgt := 84) hx hb dX6_init_75 (by decide) (fun h2 => c84 (Or.inl ((jA_neq (b := 0) (by omega) (by decide)).mp h2))) (fun h2 => ?_)
      have n0 : i ≠ 0 := fun z => h2 (by rw [z]; rfl)
      refine lv_iload_n hx hb dX6_init_78 rfl (lv_at hl 1 rfl) ?_
      refine lv_bipush (v := (6 : Int32)) hx hb dX6_init_79 (by decide) ?_
      refine lv_icmp_ne (tgt := 88) hx hb dX6_init_81 (by decide) (fun h3 => ?_) (fun h3 => c84 (Or.inr ((jA_neq (b := 6) (by omega) (by decide)).mp h3)))
      have n6 : i ≠ 6 := fun z => h3 (by rw [z]; rfl)
      refine lv_iconst (v := (4 : Int32)) hx hb dX6_init_88 (by decide) ?_
      refine c89 4 ?_
      unfold moSv
      rw [if_neg n3, if_neg n0, if_neg n6]
    · have e3 : i = 3 := (jA_neq (b := 3) (by omega) (by decide)).mp h1
      refine lv_iconst (v := (2 : Int32)) hx hb dX6_init_70 (by decide) ?_
      refine lv_goto (tgt := 89) hx hb dX6_init_71 (by decide) ?_
      refine c89 2 ?_
      unfold moSv
      rw [if_pos e3]
end NMO
set_option maxHeartbeats 4000000 in
set_option maxRecDepth 100000 in
theorem i_Model (l : Launch) (D : va_G) (Y : Nat → ClassId) (h sz : Nat) : Met l yX6_init (mWs yX6_init cX6_init 2 none) ({ frames := 2, cells := 5, slots := 1024, locals := 40 }) (va_Pc [.ref h] (fun U => U.heap.size = sz ∧ va_P D vwCl [(h, .inr (6, vMo0 .null .null .null .null .null))] U.heap ∧ va_K D vwCl (mtY Y) U ∧ sS (va_A [(h, .inr (6, vMo0 .null .null .null .null .null))] sz) U U.heap)) (va_Qv (fun u : Nat → Nat => u 246 = h) (fun u t => mP (D, Y, u, moI) gMo t.heap ∧ va_D (va_A [(h, .inr (6, vMo0 .null .null .null .null .null))] sz) (mws (D, Y, u, moI) gMo)) (va_A [(h, .inr (6, vMo0 .null .null .null .null .null))] sz)) 5 1024 (va_A [(h, .inr (6, vMo0 .null .null .null .null .null))] sz) := by
  refine Met.ofW (cc := cX6_init) (maxL := 2) (ret := none) (by decide) rfl ?_
  intro p e s m args below meth c s₁ B hml hv
  obtain ⟨rfl, hsz, hP, hK, hF⟩ := hv
  have hx := B.exec
  have hb := B.bytes
  have hr := B.returns
  have hts : ∀ w ∈ wsL_law, w.before _ s = true := fun w hw => atoms_spec (ws := mWs yX6_init cX6_init 2 none) B.pre w (List.mem_cons_of_mem _ hw)
  have hown : s.vm.findClass RX6 = some m.cls := findClass_of_methodNamed B.named
  have hlocks := B.notSynchronized
  have hin : meth.name = "<init>" := (name_of_methodNamed B.named B.method).1
  subst hsz
  have hD : va_D (va_A [(h, .inr (6, vMo0 .null .null .null .null .null))] s.heap.size) [(h, .inr (6, vMo0 .null .null .null .null .null))] := by
    refine ⟨fun i j p q hi hj _ => ?_, fun k q hk => va_A.in hk⟩
    have h1 : i < 1 := (List.getElem?_eq_some_iff.mp hi).1
    have h2 : j < 1 := (List.getElem?_eq_some_iff.mp hj).1
    omega
  generalize hAe : va_A [(h, .inr (6, vMo0 .null .null .null .null .null))] s.heap.size = A at hD hF ⊢
  have hA : ∀ q : Nat, s.heap.size ≤ q → A q := fun q h => by rw [← hAe]; exact Or.inr h
  have hS : va_S A s.heap s.heap [] := va_S.rf
  have hl := lv_entry ([.ref h]) (n := 2) (Nat.le_of_ble_eq_true rfl)
  rw [lg_entry_eq]
  generalize (lg_sl ([.ref h]) ++ List.replicate (2 - (lg_sl ([.ref h])).length) Slot.unset).toArray = ls at hl ⊢
  have hl : lv_has ls 2 [(0, .ref h)] := hl
  refine lv_aload_n hx hb dX6_init_0 rfl (lv_at hl 0 rfl) ?_
  refine W.objInit hx hb hown (hts _ wd_7_22) (hts _ wd_1_10) (hts _ wd_1_11) rfl (by rw [hml]; exact hl.1) rfl dX6_init_1 (Nat.le_of_ble_eq_true rfl) (Nat.le_of_ble_eq_true rfl) ?_
  refine W.eq (g2 := F0 m 4 ls []) rfl ?_
  refine lv_aload_n hx hb dX6_init_4 rfl (lv_at hl 0 rfl) ?_
  refine lv_bipush (v := (82 : Int32)) hx hb dX6_init_5 (by decide) ?_
  refine va_newa (atype := .int) (ty := .int) (N' := 82) (a0 := (82, .inl (fun _ => 0))) hx hb (hts _ wd_5_2) rfl hK hP hD hS hA (fun _ => rfl) (by decide) (by decide) (by decide) (Nat.le_of_ble_eq_true rfl) (Nat.le_of_ble_eq_true rfl) dX6_init_7 (fun a0 cA H hK2 hP hD hS => ?_)
  rw [findRow (t := 1) hK rfl hK2] at hP hD
  refine va_putF (D := D) (ci := 6) (v := .ref a0) (ty := .array .int) (C := RX6) (T := TX6) (N := 11) hx hb hts inlX6 tyX6 tyX6_ok nmX6 hown hK hP hD hS 0 rfl rfl 0 (by decide) (hts _ wd_7_23) (fun _ h9 => h9) rfl hin rfl (by decide +kernel) rfl rfl (Nat.le_of_ble_eq_true rfl) dX6_init_9 (fun H locs hP hD hS => ?_)
  refine lv_aload_n hx hb dX6_init_12 rfl (lv_at hl 0 rfl) ?_
  refine lv_bipush (v := (82 : Int32)) hx hb dX6_init_13 (by decide) ?_
  refine va_newa (atype := .int) (ty := .int) (N' := 82) (a0 := (82, .inl (fun _ => 0))) hx hb (hts _ wd_5_2) rfl hK hP hD hS hA (fun _ => rfl) (by decide) (by decide) (by decide) (Nat.le_of_ble_eq_true rfl) (Nat.le_of_ble_eq_true rfl) dX6_init_15 (fun a1 cA H hK2 hP hD hS => ?_)
  rw [findRow (t := 1) hK rfl hK2] at hP hD
  refine va_putF (D := D) (ci := 6) (v := .ref a1) (ty := .array .int) (C := RX6) (T := TX6) (N := 11) hx hb hts inlX6 tyX6 tyX6_ok nmX6 hown hK hP hD hS 0 rfl rfl 1 (by decide) (hts _ wd_8_0) (fun _ h9 => h9) rfl hin rfl (by decide +kernel) rfl rfl (Nat.le_of_ble_eq_true rfl) dX6_init_17 (fun H locs hP hD hS => ?_)
  refine lv_aload_n hx hb dX6_init_20 rfl (lv_at hl 0 rfl) ?_
  refine lv_sipush (v := (656 : Int32)) hx hb dX6_init_21 (by decide) ?_
  refine va_newa (atype := .int) (ty := .int) (N' := 656) (a0 := (656, .inl (fun _ => 0))) hx hb (hts _ wd_5_2) rfl hK hP hD hS hA (fun _ => rfl) (by decide) (by decide) (by decide) (Nat.le_of_ble_eq_true rfl) (Nat.le_of_ble_eq_true rfl) dX6_init_24 (fun a2 cA H hK2 hP hD hS => ?_)
  rw [findRow (t := 1) hK rfl hK2] at hP hD
  refine va_putF (D := D) (ci := 6) (v := .ref a2) (ty := .array .int) (C := RX6) (T := TX6) (N := 11) hx hb hts inlX6 tyX6 tyX6_ok nmX6 hown hK hP hD hS 0 rfl rfl 3 (by decide) (hts _ wd_8_1) (fun _ h9 => h9) rfl hin rfl (by decide +kernel) rfl rfl (Nat.le_of_ble_eq_true rfl) dX6_init_26 (fun H locs hP hD hS => ?_)
  refine lv_aload_n hx hb dX6_init_29 rfl (lv_at hl 0 rfl) ?_
  refine lv_sipush (v := (164 : Int32)) hx hb dX6_init_30 (by decide) ?_
  refine va_newa (atype := .int) (ty := .int) (N' := 164) (a0 := (164, .inl (fun _ => 0))) hx hb (hts _ wd_5_2) rfl hK hP hD hS hA (fun _ => rfl) (by decide) (by decide) (by decide) (Nat.le_of_ble_eq_true rfl) (Nat.le_of_ble_eq_true rfl) dX6_init_33 (fun a3 cA H hK2 hP hD hS => ?_)
  rw [findRow (t := 1) hK rfl hK2] at hP hD
  refine va_putF (D := D) (ci := 6) (v := .ref a3) (ty := .array .int) (C := RX6) (T := TX6) (N := 11) hx hb hts inlX6 tyX6 tyX6_ok nmX6 hown hK hP hD hS 0 rfl rfl 5 (by decide) (hts _ wd_8_2) (fun _ h9 => h9) rfl hin rfl (by decide +kernel) rfl rfl (Nat.le_of_ble_eq_true rfl) dX6_init_35 (fun H locs hP hD hS => ?_)
  refine lv_aload_n hx hb dX6_init_38 rfl (lv_at hl 0 rfl) ?_
  refine lv_bipush (v := (40 : Int32)) hx hb dX6_init_39 (by decide) ?_
  refine va_newa (atype := .int) (ty := .int) (N' := 40) (a0 := (40, .inl (fun _ => 0))) hx hb (hts _ wd_5_2) rfl hK hP hD hS hA (fun _ => rfl) (by decide) (by decide) (by decide) (Nat.le_of_ble_eq_true rfl) (Nat.le_of_ble_eq_true rfl) dX6_init_41 (fun a4 cA H hK2 hP hD hS => ?_)
  rw [findRow (t := 1) hK rfl hK2] at hP hD
  refine va_putF (D := D) (ci := 6) (v := .ref a4) (ty := .array .int) (C := RX6) (T := TX6) (N := 11) hx hb hts inlX6 tyX6 tyX6_ok nmX6 hown hK hP hD hS 0 rfl rfl 7 (by decide) (hts _ wd_8_3) (fun _ h9 => h9) rfl hin rfl (by decide +kernel) rfl rfl (Nat.le_of_ble_eq_true rfl) dX6_init_43 (fun H locs hP hD hS => ?_)
  have hP : mP (D, Y, moU h a0 a1 a2 a3 a4, moI) g0 H := by
    show va_P D vwCl (mws (D, Y, moU h a0 a1 a2 a3 a4, moI) g0) H
    rw [mo_ws]; exact hP
  have hD : va_D A (mws (D, Y, moU h a0 a1 a2 a3 a4, moI) g0) := by rw [mo_ws]; exact hD
  have hP : mP (D, Y, moU h a0 a1 a2 a3 a4, moI) (sr g0 (fun _ => 0)) H := by
    rw [show sr g0 (fun _ => 0) = g0 from sr_id g0]; exact hP
  have hD : va_D A (mws (D, Y, moU h a0 a1 a2 a3 a4, moI) (sr g0 (fun _ => 0))) := mD_to hD
  have X : nX p s m _ c cX6_init 2 RX6 A := ⟨hx, hb, hml, hown, hts, hF⟩
  have hc : mMo (D, Y, moU h a0 a1 a2 a3 a4, moI) 246 := ⟨rfl, fun r hr => by
    rcases (show r = 0 ∨ r = 1 ∨ r = 2 ∨ r = 3 ∨ r = 4 ∨ r = 5 by omega) with rfl | rfl | rfl | rfl | rfl | rfl <;> (show _ ∈ moI; decide)⟩
  have hl : lv_has ls 2 [(0, .ref (mad (D, Y, moU h a0 a1 a2 a3 a4, moI) 246))] := hl
  have hK : mK (D, Y, moU h a0 a1 a2 a3 a4, moI) s := hK
  generalize hE : (D, Y, moU h a0 a1 a2 a3 a4, moI) = E at hP hD hc hl hK
  refine lv_aload_n hx hb dX6_init_46 rfl (lv_at hl 0 rfl) ?_
  refine nx_get (v := .ref (mad E 247)) (ci := 6) (C := RX6) (T := TX6) (N := 11) X hK hP hc.i (hc.c _) rfl inlX6 0 (by decide) wd_7_23 rfl dX6_init_47 ?_
  refine lv_bipush (v := (72 : Int32)) hx hb dX6_init_50 (by decide) ?_
  refine lv_bipush (v := (7 : Int32)) hx hb dX6_init_52 (by decide) ?_
  refine nx_iast X hK hP hD hS hc.z (mx_lit (jA_in (n := 72) (N := 82) (by decide) (by decide))) dX6_init_54 (fun H locs hP hD hS => ?_)
  rw [show (72 : Int32).toNatClampNeg = 72 by decide, sr_up] at hP hD
  refine lv_iconst (v := (0 : Int32)) hx hb dX6_init_55 (by decide) ?_
  refine lv_istore_n (lv' := [(1, .int 0), (0, .ref (mad E 246))]) hx hb dX6_init_56 rfl hl (by decide) rfl (fun ls hl => ?_)
  refine n6_loop57 X hK hc ⟨Nat.le_of_ble_eq_true rfl, Nat.le_of_ble_eq_true rfl⟩ 7 0 H locs ls _ _ rfl (Nat.le_of_ble_eq_true rfl) (Nat.le_of_ble_eq_true rfl) hP hD hS (lv_sub hl [1, 0] rfl) (fun H locs ls hP hD hS hl => ?_)
  refine lv_aload_n hx hb dX6_init_109 rfl (lv_at hl 0 rfl) ?_
  refine nx_get (v := .ref (mad E 247)) (ci := 6) (C := RX6) (T := TX6) (N := 11) X hK hP hc.i (hc.c _) rfl inlX6 0 (by decide) wd_7_23 rfl dX6_init_110 ?_
  refine lv_bipush (v := (75 : Int32)) hx hb dX6_init_113 (by decide) ?_
  refine lv_sipush (v := (300 : Int32)) hx hb dX6_init_115 (by decide) ?_
  refine nx_iast X hK hP hD hS hc.z (mx_lit (jA_in (n := 75) (N := 82) (by decide) (by decide))) dX6_init_118 (fun H locs hP hD hS => ?_)
  rw [show (75 : Int32).toNatClampNeg = 75 by decide, sr_up] at hP hD
  refine lv_aload_n hx hb dX6_init_119 rfl (lv_at hl 0 rfl) ?_
  refine nx_get (v := .ref (mad E 247)) (ci := 6) (C := RX6) (T := TX6) (N := 11) X hK hP hc.i (hc.c _) rfl inlX6 0 (by decide) wd_7_23 rfl dX6_init_120 ?_
  refine lv_bipush (v := (76 : Int32)) hx hb dX6_init_123 (by decide) ?_
  refine lv_iconst (v := (5 : Int32)) hx hb dX6_init_125 (by decide) ?_
  refine nx_iast X hK hP hD hS hc.z (mx_lit (jA_in (n := 76) (N := 82) (by decide) (by decide))) dX6_init_126 (fun H locs hP hD hS => ?_)
  rw [show (76 : Int32).toNatClampNeg = 76 by decide, sr_up] at hP hD
  subst hE
  exact W.vret hx hb hr (fun t ht hW => ⟨⟨moU h a0 a1 a2 a3 a4, rfl, rfl, by rw [ht]; exact hP, hD⟩, hS.F ht⟩) hS.2.2 dX6_init_127
