/-! PeatRailway$State.takeTurn -/
def x3_takeTurn (c : Nat) (d1 : Nat) (G : mM) : Option mM :=
  if (G d1 5) ≤ 0 then
    (x3_reasonToWait c d1 G).bind fun q_2 =>
    mNm (up2 G d1 6 q_2) fun G_3 =>
    if (G_3 d1 6) = 0 then
      (x3_isToUnload c d1 G_3).bind fun q_5 =>
      if q_5 = 0 then
        (x3_isToLoad c d1 G_3).bind fun q_7 =>
        if q_7 = 0 then
          (x3_moveTrain c d1 G_3).bind fun q_9 =>
          some (q_9)
        else
          (x3_loadTrain c d1 G_3).bind fun q_10 =>
          some (q_10)
      else
        (x3_unloadTrain c d1 G_3).bind fun q_11 =>
        some (q_11)
    else
      mNm (up2 G_3 d1 7 ((G_3 d1 7) + ((1 : Int32)))) fun G_12 =>
      some (G_12)
  else
    mNm (up2 G d1 5 ((G d1 5) - ((1 : Int32)))) fun G_13 =>
    mNm (up2 G_13 d1 6 ((0 : Int32))) fun G_14 =>
    some (G_14)
theorem hd3_takeTurn : yX3_takeTurn.cls = RX3 ∧ yX3_takeTurn.cls ≠ "java/lang/invoke/MethodHandle" ∧ yX3_takeTurn.cls ≠ "java/lang/invoke/VarHandle" ∧ (parseMethodDescriptor yX3_takeTurn.desc).map (fun d => d.parameters.length) = some 1 := by decide +kernel
set_option maxHeartbeats 4000000 in
set_option maxRecDepth 100000 in
theorem c3_takeTurn (l : Launch) (E : mE) (hJ : mJ E) {c : Nat} {d1 : Nat} (hc : mSt E c) (hd1 : mTr E d1) (G : mM) (q : mM) (hT : x3_takeTurn c d1 G = some q) : mMet l E yX3_takeTurn cX3_takeTurn 2 none 3 71 [.ref (mad E (c)), .ref (mad E (d1))] G (none) q := by
  refine Met.ofW (cc := cX3_takeTurn) (maxL := 2) (ret := none) (by decide) rfl ?_
  intro p e s m args below meth cd s₁ B hml hv
  obtain ⟨rfl, hP, hK, hS⟩ := hv
  have X := mx_entry (own := RX3) B hml hK hJ hS rfl
  have hx := X.1
  have hb := X.2.1
  have hown := X.2.2.2.1
  have hts := X.2.2.2.2.1
  have hr := B.returns
  have hlocks := B.notSynchronized
  have hR : 3 ≤ (headSpec (mWs yX3_takeTurn cX3_takeTurn 2 none) ({ frames := 3, cells := 0, slots := 0, locals := 71 })).room.frames ∧ 71 ≤ (headSpec (mWs yX3_takeTurn cX3_takeTurn 2 none) ({ frames := 3, cells := 0, slots := 0, locals := 71 })).room.locals := ⟨Nat.le_refl _, Nat.le_refl _⟩
  have Z : mZ E s.heap s.heap [] G := ⟨hP, va_S.rf⟩
  have hl := lv_entry ([.ref (mad E (c)), .ref (mad E (d1))]) (n := 2) (Nat.le_of_ble_eq_true rfl)
  rw [lg_entry_eq]
  generalize (lg_sl ([.ref (mad E (c)), .ref (mad E (d1))]) ++ List.replicate (2 - (lg_sl ([.ref (mad E (c)), .ref (mad E (d1))])).length) Slot.unset).toArray = ls at hl ⊢
  have hl : lv_has ls 2 [(0, .ref (mad E (c))), (1, .ref (mad E (d1)))] := hl
  unfold x3_takeTurn at hT
  refine lv_aload_n hx hb dX3_takeTurn_0 rfl (lv_at hl 1 rfl) ?_
  refine mx_get (v := .int (G d1 5)) (ci := 4) (C := RX4) (T := TX4) (N := 10) X Z hd1.i (hd1.c _) rfl inlX4 5 (by decide) wd_18_16 rfl dX3_takeTurn_1 ?_
  refine lv_if_le (tgt := 23) hx hb dX3_takeTurn_4 (by decide) (fun h_1 => ?_) (fun h_1 => ?_)
  · replace hT := mx_t hT h_1
    refine lv_aload_n hx hb dX3_takeTurn_23 rfl (lv_at hl 1 rfl) ?_
    refine lv_aload_n hx hb dX3_takeTurn_24 rfl (lv_at hl 0 rfl) ?_
    refine lv_aload_n hx hb dX3_takeTurn_25 rfl (lv_at hl 1 rfl) ?_
    obtain ⟨q_2, h_q_2, hT⟩ := mx_bind hT
    refine mx_callV (As := [.ref (mad E (d1))]) (rest := [.ref (mad E (d1))]) (st1 := [.int (q_2), .ref (mad E (d1))]) (C := RX3) (T := TX3) (N := 11) (ci := 3) X Z hl.1 (c3_reasonToWait l E hJ hc hd1 _ _ h_q_2) wd_18_18 wd_13_3 wd_13_4 wd_1_16 wd_13_5 hd3_reasonToWait ⟨Nat.le_trans (by decide) hR.1, Nat.le_trans (by decide) hR.2⟩ ⟨Nat.zero_le _, Nat.zero_le _⟩ hc.i (hc.c _) rfl (Nat.le_of_ble_eq_true rfl) rfl rfl dX3_takeTurn_26 (fun H locs Z => ?_)
    obtain ⟨G_3, e_G_3, hT⟩ := mx_nm hT
    refine mx_put (ci := 4) (C := RX4) (T := TX4) (N := 10) X Z hd1.i (hd1.c _) rfl inlX4 tyX4 tyX4_ok nmX4 6 (by decide) wd_18_17 rfl rfl rfl (by show 6 < 10; decide) ((hd1.c _).trans (congrArg (fun z => Sum.inr (4, z)) (sp_Tr_6 _ _ _))) dX3_takeTurn_29 (fun H locs Z => ?_)
    rw [e_G_3] at Z
    refine lv_aload_n hx hb dX3_takeTurn_32 rfl (lv_at hl 1 rfl) ?_
    refine mx_get (v := .int (G_3 d1 6)) (ci := 4) (C := RX4) (T := TX4) (N := 10) X Z hd1.i (hd1.c _) rfl inlX4 6 (by decide) wd_18_17 rfl dX3_takeTurn_33 ?_
    refine lv_if_eq (tgt := 52) hx hb dX3_takeTurn_36 (by decide) (fun h_4 => ?_) (fun h_4 => ?_)
    · replace hT := mx_t hT h_4
      refine lv_aload_n hx hb dX3_takeTurn_52 rfl (lv_at hl 0 rfl) ?_
      refine lv_aload_n hx hb dX3_takeTurn_53 rfl (lv_at hl 1 rfl) ?_
      obtain ⟨q_5, h_q_5, hT⟩ := mx_bind hT
      refine mx_callV (As := [.ref (mad E (d1))]) (rest := []) (st1 := [.int (q_5)]) (C := RX3) (T := TX3) (N := 11) (ci := 3) X Z hl.1 (c3_isToUnload l E hJ hc hd1 _ _ h_q_5) wd_13_8 wd_13_9 wd_13_10 wd_1_16 wd_13_11 hd3_isToUnload ⟨Nat.le_trans (by decide) hR.1, Nat.le_trans (by decide) hR.2⟩ ⟨Nat.zero_le _, Nat.zero_le _⟩ hc.i (hc.c _) rfl (Nat.le_of_ble_eq_true rfl) rfl rfl dX3_takeTurn_54 (fun H locs Z => ?_)
      refine lv_if_eq (tgt := 68) hx hb dX3_takeTurn_57 (by decide) (fun h_6 => ?_) (fun h_6 => ?_)
      · replace hT := mx_t hT h_6
        refine lv_aload_n hx hb dX3_takeTurn_68 rfl (lv_at hl 0 rfl) ?_
        refine lv_aload_n hx hb dX3_takeTurn_69 rfl (lv_at hl 1 rfl) ?_
        obtain ⟨q_7, h_q_7, hT⟩ := mx_bind hT
        refine mx_callV (As := [.ref (mad E (d1))]) (rest := []) (st1 := [.int (q_7)]) (C := RX3) (T := TX3) (N := 11) (ci := 3) X Z hl.1 (c3_isToLoad l E hJ hc hd1 _ _ h_q_7) wd_13_12 wd_13_13 wd_13_14 wd_1_16 wd_13_15 hd3_isToLoad ⟨Nat.le_trans (by decide) hR.1, Nat.le_trans (by decide) hR.2⟩ ⟨Nat.zero_le _, Nat.zero_le _⟩ hc.i (hc.c _) rfl (Nat.le_of_ble_eq_true rfl) rfl rfl dX3_takeTurn_70 (fun H locs Z => ?_)
        refine lv_if_eq (tgt := 84) hx hb dX3_takeTurn_73 (by decide) (fun h_8 => ?_) (fun h_8 => ?_)
        · replace hT := mx_t hT h_8
          refine lv_aload_n hx hb dX3_takeTurn_84 rfl (lv_at hl 0 rfl) ?_
          refine lv_aload_n hx hb dX3_takeTurn_85 rfl (lv_at hl 1 rfl) ?_
          obtain ⟨q_9, h_q_9, hT⟩ := mx_bind hT
          refine mx_callV (As := [.ref (mad E (d1))]) (rest := []) (st1 := []) (C := RX3) (T := TX3) (N := 11) (ci := 3) X Z hl.1 (c3_moveTrain l E hJ hc hd1 _ _ h_q_9) wd_19_5 wd_19_6 wd_19_7 wd_1_16 wd_19_8 hd3_moveTrain ⟨Nat.le_trans (by decide) hR.1, Nat.le_trans (by decide) hR.2⟩ ⟨Nat.zero_le _, Nat.zero_le _⟩ hc.i (hc.c _) rfl (Nat.le_of_ble_eq_true rfl) rfl rfl dX3_takeTurn_86 (fun H locs Z => ?_)
          cases hT
          exact W.vret hx hb hr (fun t ht hW => mx_end Z t ht _) Z.2.2.2 dX3_takeTurn_89
        · replace hT := mx_f hT h_8
          refine lv_aload_n hx hb dX3_takeTurn_76 rfl (lv_at hl 0 rfl) ?_
          refine lv_aload_n hx hb dX3_takeTurn_77 rfl (lv_at hl 1 rfl) ?_
          obtain ⟨q_10, h_q_10, hT⟩ := mx_bind hT
          refine mx_callV (As := [.ref (mad E (d1))]) (rest := []) (st1 := []) (C := RX3) (T := TX3) (N := 11) (ci := 3) X Z hl.1 (c3_loadTrain l E hJ hc hd1 _ _ h_q_10) wd_19_1 wd_19_2 wd_19_3 wd_1_16 wd_19_4 hd3_loadTrain ⟨Nat.le_trans (by decide) hR.1, Nat.le_trans (by decide) hR.2⟩ ⟨Nat.zero_le _, Nat.zero_le _⟩ hc.i (hc.c _) rfl (Nat.le_of_ble_eq_true rfl) rfl rfl dX3_takeTurn_78 (fun H locs Z => ?_)
          refine lv_goto (tgt := 89) hx hb dX3_takeTurn_81 (by decide) ?_
          cases hT
          exact W.vret hx hb hr (fun t ht hW => mx_end Z t ht _) Z.2.2.2 dX3_takeTurn_89
      · replace hT := mx_f hT h_6
        refine lv_aload_n hx hb dX3_takeTurn_60 rfl (lv_at hl 0 rfl) ?_
        refine lv_aload_n hx hb dX3_takeTurn_61 rfl (lv_at hl 1 rfl) ?_
        obtain ⟨q_11, h_q_11, hT⟩ := mx_bind hT
        refine mx_callV (As := [.ref (mad E (d1))]) (rest := []) (st1 := []) (C := RX3) (T := TX3) (N := 11) (ci := 3) X Z hl.1 (c3_unloadTrain l E hJ hc hd1 _ _ h_q_11) wd_18_19 wd_18_20 wd_18_21 wd_1_16 wd_18_22 hd3_unloadTrain ⟨Nat.le_trans (by decide) hR.1, Nat.le_trans (by decide) hR.2⟩ ⟨Nat.zero_le _, Nat.zero_le _⟩ hc.i (hc.c _) rfl (Nat.le_of_ble_eq_true rfl) rfl rfl dX3_takeTurn_62 (fun H locs Z => ?_)
        refine lv_goto (tgt := 89) hx hb dX3_takeTurn_65 (by decide) ?_
        cases hT
        exact W.vret hx hb hr (fun t ht hW => mx_end Z t ht _) Z.2.2.2 dX3_takeTurn_89
    · replace hT := mx_f hT h_4
      refine lv_aload_n hx hb dX3_takeTurn_39 rfl (lv_at hl 1 rfl) ?_
      refine lv_dup hx hb dX3_takeTurn_40 rfl ?_
      refine mx_get (v := .int (G_3 d1 7)) (ci := 4) (C := RX4) (T := TX4) (N := 10) X Z hd1.i (hd1.c _) rfl inlX4 7 (by decide) wd_16_4 rfl dX3_takeTurn_41 ?_
      refine lv_iconst (v := (1 : Int32)) hx hb dX3_takeTurn_44 (by decide) ?_
      refine lv_iadd hx hb dX3_takeTurn_45 ?_
      obtain ⟨G_12, e_G_12, hT⟩ := mx_nm hT
      refine mx_put (ci := 4) (C := RX4) (T := TX4) (N := 10) X Z hd1.i (hd1.c _) rfl inlX4 tyX4 tyX4_ok nmX4 7 (by decide) wd_16_4 rfl rfl rfl (by show 7 < 10; decide) ((hd1.c _).trans (congrArg (fun z => Sum.inr (4, z)) (sp_Tr_7 _ _ _))) dX3_takeTurn_46 (fun H locs Z => ?_)
      rw [e_G_12] at Z
      refine lv_goto (tgt := 89) hx hb dX3_takeTurn_49 (by decide) ?_
      cases hT
      exact W.vret hx hb hr (fun t ht hW => mx_end Z t ht _) Z.2.2.2 dX3_takeTurn_89
  · replace hT := mx_f hT h_1
    refine lv_aload_n hx hb dX3_takeTurn_7 rfl (lv_at hl 1 rfl) ?_
    refine lv_dup hx hb dX3_takeTurn_8 rfl ?_
    refine mx_get (v := .int (G d1 5)) (ci := 4) (C := RX4) (T := TX4) (N := 10) X Z hd1.i (hd1.c _) rfl inlX4 5 (by decide) wd_18_16 rfl dX3_takeTurn_9 ?_
    refine lv_iconst (v := (1 : Int32)) hx hb dX3_takeTurn_12 (by decide) ?_
    refine lv_isub hx hb dX3_takeTurn_13 ?_
    obtain ⟨G_13, e_G_13, hT⟩ := mx_nm hT
    refine mx_put (ci := 4) (C := RX4) (T := TX4) (N := 10) X Z hd1.i (hd1.c _) rfl inlX4 tyX4 tyX4_ok nmX4 5 (by decide) wd_18_16 rfl rfl rfl (by show 5 < 10; decide) ((hd1.c _).trans (congrArg (fun z => Sum.inr (4, z)) (sp_Tr_5 _ _ _))) dX3_takeTurn_14 (fun H locs Z => ?_)
    rw [e_G_13] at Z
    refine lv_aload_n hx hb dX3_takeTurn_17 rfl (lv_at hl 1 rfl) ?_
    refine lv_iconst (v := (0 : Int32)) hx hb dX3_takeTurn_18 (by decide) ?_
    obtain ⟨G_14, e_G_14, hT⟩ := mx_nm hT
    refine mx_put (ci := 4) (C := RX4) (T := TX4) (N := 10) X Z hd1.i (hd1.c _) rfl inlX4 tyX4 tyX4_ok nmX4 6 (by decide) wd_18_17 rfl rfl rfl (by show 6 < 10; decide) ((hd1.c _).trans (congrArg (fun z => Sum.inr (4, z)) (sp_Tr_6 _ _ _))) dX3_takeTurn_19 (fun H locs Z => ?_)
    rw [e_G_14] at Z
    cases hT
    exact W.vret hx hb hr (fun t ht hW => mx_end Z t ht _) Z.2.2.2 dX3_takeTurn_22
/-! PeatRailway$Train.weight -/
def x4_weight (c : Nat) (G : mM) : Option Int32 :=
  some ((((4 : Int32)) + (((2 : Int32)) * (G c 0))) + (G c 2))
theorem hd4_weight : yX4_weight.cls = RX4 ∧ yX4_weight.cls ≠ "java/lang/invoke/MethodHandle" ∧ yX4_weight.cls ≠ "java/lang/invoke/VarHandle" ∧ (parseMethodDescriptor yX4_weight.desc).map (fun d => d.parameters.length) = some 0 := by decide +kernel
set_option maxHeartbeats 4000000 in
set_option maxRecDepth 100000 in
theorem c4_weight (l : Launch) (E : mE) (hJ : mJ E) {c : Nat} (hc : mTr E c) (G : mM) (q : Int32) (hT : x4_weight c G = some q) : mMet l E yX4_weight cX4_weight 1 (some .int) 0 0 [.ref (mad E (c))] G (some (.int q)) G := by
  refine Met.ofW (cc := cX4_weight) (maxL := 1) (ret := (some .int)) (by decide) rfl ?_
  intro p e s m args below meth cd s₁ B hml hv
  obtain ⟨rfl, hP, hK, hS⟩ := hv
  have X := mx_entry (own := RX4) B hml hK hJ hS rfl
  have hx := X.1
  have hb := X.2.1
  have hown := X.2.2.2.1
  have hts := X.2.2.2.2.1
  have hr := B.returns
  have hlocks := B.notSynchronized
  have hR : 0 ≤ (headSpec (mWs yX4_weight cX4_weight 1 (some .int)) ({ frames := 0, cells := 0, slots := 0, locals := 0 })).room.frames ∧ 0 ≤ (headSpec (mWs yX4_weight cX4_weight 1 (some .int)) ({ frames := 0, cells := 0, slots := 0, locals := 0 })).room.locals := ⟨Nat.le_refl _, Nat.le_refl _⟩
  have Z : mZ E s.heap s.heap [] G := ⟨hP, va_S.rf⟩
  have hl := lv_entry ([.ref (mad E (c))]) (n := 1) (Nat.le_of_ble_eq_true rfl)
  rw [lg_entry_eq]
  generalize (lg_sl ([.ref (mad E (c))]) ++ List.replicate (1 - (lg_sl ([.ref (mad E (c))])).length) Slot.unset).toArray = ls at hl ⊢
  have hl : lv_has ls 1 [(0, .ref (mad E (c)))] := hl
  unfold x4_weight at hT
  refine lv_iconst (v := (4 : Int32)) hx hb dX4_weight_0 (by decide) ?_
  refine lv_iconst (v := (2 : Int32)) hx hb dX4_weight_1 (by decide) ?_
  refine lv_aload_n hx hb dX4_weight_2 rfl (lv_at hl 0 rfl) ?_
  refine mx_get (v := .int (G c 0)) (ci := 4) (C := RX4) (T := TX4) (N := 10) X Z hc.i (hc.c _) rfl inlX4 0 (by decide) wd_9_2 rfl dX4_weight_3 ?_
  refine lv_imul hx hb dX4_weight_6 ?_
  refine lv_iadd hx hb dX4_weight_7 ?_
  refine lv_aload_n hx hb dX4_weight_8 rfl (lv_at hl 0 rfl) ?_
  refine mx_get (v := .int (G c 2)) (ci := 4) (C := RX4) (T := TX4) (N := 10) X Z hc.i (hc.c _) rfl inlX4 2 (by decide) wd_9_4 rfl dX4_weight_9 ?_
  refine lv_iadd hx hb dX4_weight_12 ?_
  cases hT
  exact W.iret hx hb hr (fun t ht hW => mx_end Z t ht _) Z.2.2.2 dX4_weight_13
/-! PeatRailway$Segment.settle -/
def x2_settle (c : Nat) (x1 : Int32) (G : mM) : Option mM :=
  if (G c 5) = 0 then
    mNm (if ((G c 2) - x1) < ((0 : Int32)) then ((0 : Int32)) else ((G c 2) - x1)) fun v_5 =>
    mNm (up2 G c 2 v_5) fun G_6 =>
    mNm (up2 G_6 c 5 ((0 : Int32))) fun G_7 =>
    some (G_7)
  else
    mNm (if ((999 : Int32)) < ((G c 2) + (((G c 5) * (G c 0)) / ((10 : Int32)))) then ((999 : Int32)) else ((G c 2) + (((G c 5) * (G c 0)) / ((10 : Int32))))) fun v_2 =>
    mNm (up2 G c 2 v_2) fun G_3 =>
    mNm (up2 G_3 c 5 ((0 : Int32))) fun G_4 =>
    some (G_4)
theorem hd2_settle : yX2_settle.cls = RX2 ∧ yX2_settle.cls ≠ "java/lang/invoke/MethodHandle" ∧ yX2_settle.cls ≠ "java/lang/invoke/VarHandle" ∧ (parseMethodDescriptor yX2_settle.desc).map (fun d => d.parameters.length) = some 1 := by decide +kernel
set_option maxHeartbeats 4000000 in
set_option maxRecDepth 100000 in
theorem c2_settle (l : Launch) (E : mE) (hJ : mJ E) {c : Nat} (hc : mSg E c) (x1 : Int32) (G : mM) (q : mM) (hT : x2_settle c x1 G = some q) : mMet l E yX2_settle cX2_settle 2 none 1 21 [.ref (mad E (c)), .int (x1)] G (none) q := by
  refine Met.ofW (cc := cX2_settle) (maxL := 2) (ret := none) (by decide) rfl ?_
  intro p e s m args below meth cd s₁ B hml hv
  obtain ⟨rfl, hP, hK, hS⟩ := hv
  have X := mx_entry (own := RX2) B hml hK hJ hS rfl
  have hx := X.1
  have hb := X.2.1
  have hown := X.2.2.2.1
  have hts := X.2.2.2.2.1
  have hr := B.returns
  have hlocks := B.notSynchronized
  have hR : 1 ≤ (headSpec (mWs yX2_settle cX2_settle 2 none) ({ frames := 1, cells := 0, slots := 0, locals := 21 })).room.frames ∧ 21 ≤ (headSpec (mWs yX2_settle cX2_settle 2 none) ({ frames := 1, cells := 0, slots := 0, locals := 21 })).room.locals := ⟨Nat.le_refl _, Nat.le_refl _⟩
  have Z : mZ E s.heap s.heap [] G := ⟨hP, va_S.rf⟩
  have hl := lv_entry ([.ref (mad E (c)), .int (x1)]) (n := 2) (Nat.le_of_ble_eq_true rfl)
  rw [lg_entry_eq]
  generalize (lg_sl ([.ref (mad E (c)), .int (x1)]) ++ List.replicate (2 - (lg_sl ([.ref (mad E (c)), .int (x1)])).length) Slot.unset).toArray = ls at hl ⊢
  have hl : lv_has ls 2 [(0, .ref (mad E (c))), (1, .int (x1))] := hl
  unfold x2_settle at hT
  refine lv_aload_n hx hb dX2_settle_0 rfl (lv_at hl 0 rfl) ?_
  refine mx_get (v := .int (G c 5)) (ci := 2) (C := RX2) (T := TX2) (N := 6) X Z hc.i (hc.c _) rfl inlX2 5 (by decide) wd_19_18 rfl dX2_settle_1 ?_
  refine lv_if_ne (tgt := 24) hx hb dX2_settle_4 (by decide) (fun h_1 => ?_) (fun h_1 => ?_)
  · replace hT := mx_f hT h_1
    refine lv_aload_n hx hb dX2_settle_24 rfl (lv_at hl 0 rfl) ?_
    refine lv_aload_n hx hb dX2_settle_25 rfl (lv_at hl 0 rfl) ?_
    refine mx_get (v := .int (G c 2)) (ci := 2) (C := RX2) (T := TX2) (N := 6) X Z hc.i (hc.c _) rfl inlX2 2 (by decide) wd_6_14 rfl dX2_settle_26 ?_
    refine lv_aload_n hx hb dX2_settle_29 rfl (lv_at hl 0 rfl) ?_
    refine mx_get (v := .int (G c 5)) (ci := 2) (C := RX2) (T := TX2) (N := 6) X Z hc.i (hc.c _) rfl inlX2 5 (by decide) wd_19_18 rfl dX2_settle_30 ?_
    refine lv_aload_n hx hb dX2_settle_33 rfl (lv_at hl 0 rfl) ?_
    refine mx_get (v := .int (G c 0)) (ci := 2) (C := RX2) (T := TX2) (N := 6) X Z hc.i (hc.c _) rfl inlX2 0 (by decide) wd_6_12 rfl dX2_settle_34 ?_
    refine lv_imul hx hb dX2_settle_37 ?_
    refine lv_bipush (v := (10 : Int32)) hx hb dX2_settle_38 (by decide) ?_
    refine lv_idiv hx hb dX2_settle_40 (by decide) ?_
    refine lv_iadd hx hb dX2_settle_41 ?_
    refine lv_sipush (v := (999 : Int32)) hx hb dX2_settle_42 (by decide) ?_
    refine mx_min X hl.1 wd_19_20 wd_19_21 wd_15_22 wd_19_22 (Nat.le_trans (by decide) hR.1) (Nat.le_trans (Nat.le_of_ble_eq_true rfl) hR.2) ⟨Nat.zero_le _, Nat.zero_le _⟩ dX2_settle_45 ?_
    obtain ⟨v_2, e_v_2, hT⟩ := mx_nm hT
    refine mx_tops (congrArg (fun z => (.int (z) :: [.ref (mad E (c))] : List Value)) e_v_2) ?_
    obtain ⟨G_3, e_G_3, hT⟩ := mx_nm hT
    refine mx_put (ci := 2) (C := RX2) (T := TX2) (N := 6) X Z hc.i (hc.c _) rfl inlX2 tyX2 tyX2_ok nmX2 2 (by decide) wd_6_14 rfl rfl rfl (by show 2 < 6; decide) ((hc.c _).trans (congrArg (fun z => Sum.inr (2, z)) (sp_Sg_2 _ _ _))) dX2_settle_48 (fun H locs Z => ?_)
    rw [e_G_3] at Z
    refine lv_aload_n hx hb dX2_settle_51 rfl (lv_at hl 0 rfl) ?_
    refine lv_iconst (v := (0 : Int32)) hx hb dX2_settle_52 (by decide) ?_
    obtain ⟨G_4, e_G_4, hT⟩ := mx_nm hT
    refine mx_put (ci := 2) (C := RX2) (T := TX2) (N := 6) X Z hc.i (hc.c _) rfl inlX2 tyX2 tyX2_ok nmX2 5 (by decide) wd_19_18 rfl rfl rfl (by show 5 < 6; decide) ((hc.c _).trans (congrArg (fun z => Sum.inr (2, z)) (sp_Sg_5 _ _ _))) dX2_settle_53 (fun H locs Z => ?_)
    rw [e_G_4] at Z
    cases hT
    exact W.vret hx hb hr (fun t ht hW => mx_end Z t ht _) Z.2.2.2 dX2_settle_56
  · replace hT := mx_t hT h_1
    refine lv_aload_n hx hb dX2_settle_7 rfl (lv_at hl 0 rfl) ?_
    refine lv_aload_n hx hb dX2_settle_8 rfl (lv_at hl 0 rfl) ?_
    refine mx_get (v := .int (G c 2)) (ci := 2) (C := RX2) (T := TX2) (N := 6) X Z hc.i (hc.c _) rfl inlX2 2 (by decide) wd_6_14 rfl dX2_settle_9 ?_
    refine lv_iload_n hx hb dX2_settle_12 rfl (lv_at hl 1 rfl) ?_
    refine lv_isub hx hb dX2_settle_13 ?_
    refine lv_iconst (v := (0 : Int32)) hx hb dX2_settle_14 (by decide) ?_
    refine mx_max X hl.1 wd_19_19 wd_15_21 wd_15_22 wd_15_23 (Nat.le_trans (by decide) hR.1) (Nat.le_trans (Nat.le_of_ble_eq_true rfl) hR.2) ⟨Nat.zero_le _, Nat.zero_le _⟩ dX2_settle_15 ?_
    obtain ⟨v_5, e_v_5, hT⟩ := mx_nm hT
    refine mx_tops (congrArg (fun z => (.int (z) :: [.ref (mad E (c))] : List Value)) e_v_5) ?_
    obtain ⟨G_6, e_G_6, hT⟩ := mx_nm hT
    refine mx_put (ci := 2) (C := RX2) (T := TX2) (N := 6) X Z hc.i (hc.c _) rfl inlX2 tyX2 tyX2_ok nmX2 2 (by decide) wd_6_14 rfl rfl rfl (by show 2 < 6; decide) ((hc.c _).trans (congrArg (fun z => Sum.inr (2, z)) (sp_Sg_2 _ _ _))) dX2_settle_18 (fun H locs Z => ?_)
    rw [e_G_6] at Z
    refine lv_goto (tgt := 51) hx hb dX2_settle_21 (by decide) ?_
    refine lv_aload_n hx hb dX2_settle_51 rfl (lv_at hl 0 rfl) ?_
    refine lv_iconst (v := (0 : Int32)) hx hb dX2_settle_52 (by decide) ?_
    obtain ⟨G_7, e_G_7, hT⟩ := mx_nm hT
    refine mx_put (ci := 2) (C := RX2) (T := TX2) (N := 6) X Z hc.i (hc.c _) rfl inlX2 tyX2 tyX2_ok nmX2 5 (by decide) wd_19_18 rfl rfl rfl (by show 5 < 6; decide) ((hc.c _).trans (congrArg (fun z => Sum.inr (2, z)) (sp_Sg_5 _ _ _))) dX2_settle_53 (fun H locs Z => ?_)
    rw [e_G_7] at Z
    cases hT
    exact W.vret hx hb hr (fun t ht hW => mx_end Z t ht _) Z.2.2.2 dX2_settle_56
/-! PeatRailway$State.settle -/
def x3_settle_L2 (y0 : Nat) : Nat → Int32 → mM → Option (mM)
  | 0, _, _ => none
  | n + 1, w1, G =>
    if ((4 : Int32)) ≤ w1 then
      some (G)
    else
      (x3_trainAt y0 w1 G).bind fun q_2 =>
      mOpt q_2 (
        mNm (w1 + (1 : Int32)) fun v_5 =>
        x3_settle_L2 y0 n v_5 G) fun o_3 =>
        (x3_segmentAt y0 (G o_3 3) G).bind fun q_6 =>
        mOpt q_6 (
          mNm (w1 + (1 : Int32)) fun v_9 =>
          x3_settle_L2 y0 n v_9 G) fun o_7 =>
          (x4_weight o_3 G).bind fun q_10 =>
          mNm (up2 G o_7 5 ((G o_7 5) + q_10)) fun G_11 =>
          mNm (w1 + (1 : Int32)) fun v_12 =>
          x3_settle_L2 y0 n v_12 G_11
def x3_settle_L51 (y0 : Nat) : Nat → Int32 → mM → Option (mM)
  | 0, _, _ => none
  | n + 1, w1, G =>
    if ((12 : Int32)) ≤ w1 then
      some (G)
    else
      (x3_segmentAt y0 w1 G).bind fun q_15 =>
      mOpt q_15 (
        mNm (w1 + (1 : Int32)) fun v_18 =>
        x3_settle_L51 y0 n v_18 G) fun o_16 =>
        (x2_settle o_16 (G ((y0 + 3)) 1) G).bind fun q_19 =>
        mNm (if (q_19 y0 10) < (q_19 o_16 2) then (q_19 o_16 2) else (q_19 y0 10)) fun v_20 =>
        mNm (up2 q_19 y0 10 v_20) fun G_21 =>
        mNm (w1 + (1 : Int32)) fun v_22 =>
        x3_settle_L51 y0 n v_22 G_21
def x3_settle (c : Nat) (G : mM) : Option mM :=
  (x3_settle_L2 c mFu ((0 : Int32)) G).bind fun q_13 =>
  (x3_settle_L51 c mFu ((0 : Int32)) q_13).bind fun q_23 =>
  some (q_23)
theorem hd3_settle : yX3_settle.cls = RX3 ∧ yX3_settle.cls ≠ "java/lang/invoke/MethodHandle" ∧ yX3_settle.cls ≠ "java/lang/invoke/VarHandle" ∧ (parseMethodDescriptor yX3_settle.desc).map (fun d => d.parameters.length) = some 0 := by decide +kernel
set_option maxHeartbeats 4000000 in
set_option maxRecDepth 100000 in
theorem k3_settle_2 {p : Program} {l : Launch} {e : Env} {R : Room} {s : State} {m : MethodId} {args : Array Value} {below : List Frame} {meth : Method} {cd : Code} {Q : State → Prop} {E : mE} (X : mX p s m args cd cX3_settle 4 RX3 E) (hR : 2 ≤ R.frames ∧ 42 ≤ R.locals) (hJ : mJ E) {y0 : Nat} (hy0 : mSt E y0) : ∀ (n : Nat) (w1 : Int32) (G : mM) (H : Heap) (locs : List Loc) (ls : Array Slot) (r : mM), x3_settle_L2 y0 n w1 G = some r → mZ E s.heap H locs G → lv_has ls 4 [(0, .ref (mad E (y0))), (1, .int (w1))] → (∀ (H : Heap) (locs : List Loc) (ls : Array Slot), mZ E s.heap H locs r → lv_has ls 4 [(0, .ref (mad E (y0)))] → W p l e R s m args below meth cd H locs 0 0 Q (F0 m 49 ls [])) → W p l e R s m args below meth cd H locs 0 0 Q (F0 m 2 ls []) := by
  have hx := X.1
  have hb := X.2.1
  have hown := X.2.2.2.1
  have hts := X.2.2.2.2.1
  intro n
  induction n with
  | zero =>
    intro w1 G H locs ls r hT
    rw [x3_settle_L2] at hT
    cases hT
  | succ n ih =>
    intro w1 G H locs ls r hT Z hl k0
    rw [x3_settle_L2] at hT
    refine lv_iload_n hx hb dX3_settle_2 rfl (lv_at hl 1 rfl) ?_
    refine lv_iconst (v := (4 : Int32)) hx hb dX3_settle_3 (by decide) ?_
    refine lv_icmp_ge (tgt := 49) hx hb dX3_settle_4 (by decide) (fun h_1 => ?_) (fun h_1 => ?_)
    · replace hT := mx_t hT h_1
      cases hT
      exact k0 _ _ _ Z (lv_sub hl [0] rfl)
    · replace hT := mx_f hT h_1
      refine lv_aload_n hx hb dX3_settle_7 rfl (lv_at hl 0 rfl) ?_
      refine lv_iload_n hx hb dX3_settle_8 rfl (lv_at hl 1 rfl) ?_
      obtain ⟨q_2, h_q_2, hT⟩ := mx_bind hT
      refine mx_callV (As := [.int (w1)]) (rest := []) (st1 := [va_re (mad E) q_2]) (C := RX3) (T := TX3) (N := 11) (ci := 3) X Z hl.1 (c3_trainAt l E hJ hy0 _ _ _ h_q_2) wd_11_0 wd_11_1 wd_11_2 wd_1_16 wd_11_3 hd3_trainAt ⟨Nat.le_trans (by decide) hR.1, Nat.le_trans (by decide) hR.2⟩ ⟨Nat.zero_le _, Nat.zero_le _⟩ hy0.i (hy0.c _) rfl (Nat.le_of_ble_eq_true rfl) rfl rfl dX3_settle_9 (fun H locs Z => ?_)
      have hk_4 := c3_trainAt_k E hy0 _ _ _ h_q_2
      rcases q_2 with _ | o_3
      · replace hT := mx_on hT
        refine mx_tops (s2 := [.null]) rfl ?_
        refine lv_astore_nN (lv' := [(2, .null), (0, .ref (mad E (y0))), (1, .int (w1))]) hx hb dX3_settle_12 rfl hl (by decide) rfl (fun ls hl => ?_)
        refine lv_aload_nN hx hb dX3_settle_13 rfl (lv_at hl 0 rfl) ?_
        refine lv_ifnullN (tgt := 43) hx hb dX3_settle_14 (by decide) ?_
        obtain ⟨v_5, e_v_5, hT⟩ := mx_nm hT
        refine lv_iinc (v := v_5) (lv' := [(1, .int (v_5)), (2, .null), (0, .ref (mad E (y0)))]) hx hb dX3_settle_43 hl (k := 2) rfl (by rw [← e_v_5]; rfl) (by decide) rfl (fun ls hl => ?_)
        refine lv_goto (tgt := 2) hx hb dX3_settle_46 (by decide) ?_
        exact ih _ _ _ _ _ _ hT Z (lv_sub hl [2, 0] rfl) k0
      · replace hT := mx_os hT
        refine mx_tops (s2 := [.ref (mad E o_3)]) rfl ?_
        refine lv_astore_n (lv' := [(2, .ref (mad E (o_3))), (0, .ref (mad E (y0))), (1, .int (w1))]) hx hb dX3_settle_12 rfl hl (by decide) rfl (fun ls hl => ?_)
        refine lv_aload_n hx hb dX3_settle_13 rfl (lv_at hl 0 rfl) ?_
        refine lv_ifnull hx hb dX3_settle_14 ?_
        refine lv_aload_n hx hb dX3_settle_17 rfl (lv_at hl 1 rfl) ?_
        refine lv_aload_n hx hb dX3_settle_18 rfl (lv_at hl 0 rfl) ?_
        refine mx_get (v := .int (G o_3 3)) (ci := 4) (C := RX4) (T := TX4) (N := 10) X Z ((hk_4 o_3 rfl)).i (((hk_4 o_3 rfl)).c _) rfl inlX4 3 (by decide) wd_10_23 rfl dX3_settle_19 ?_
        obtain ⟨q_6, h_q_6, hT⟩ := mx_bind hT
        refine mx_callV (As := [.int (G o_3 3)]) (rest := []) (st1 := [va_re (mad E) q_6]) (C := RX3) (T := TX3) (N := 11) (ci := 3) X Z hl.1 (c3_segmentAt l E hJ hy0 _ _ _ h_q_6) wd_6_4 wd_6_5 wd_6_6 wd_1_16 wd_6_7 hd3_segmentAt ⟨Nat.le_trans (by decide) hR.1, Nat.le_trans (by decide) hR.2⟩ ⟨Nat.zero_le _, Nat.zero_le _⟩ hy0.i (hy0.c _) rfl (Nat.le_of_ble_eq_true rfl) rfl rfl dX3_settle_22 (fun H locs Z => ?_)
        have hk_8 := c3_segmentAt_k E hy0 _ _ _ h_q_6
        rcases q_6 with _ | o_7
        · replace hT := mx_on hT
          refine mx_tops (s2 := [.null]) rfl ?_
          refine lv_astore_nN (lv' := [(3, .null), (2, .ref (mad E (o_3))), (0, .ref (mad E (y0))), (1, .int (w1))]) hx hb dX3_settle_25 rfl hl (by decide) rfl (fun ls hl => ?_)
          refine lv_aload_nN hx hb dX3_settle_26 rfl (lv_at hl 0 rfl) ?_
          refine lv_ifnullN (tgt := 43) hx hb dX3_settle_27 (by decide) ?_
          obtain ⟨v_9, e_v_9, hT⟩ := mx_nm hT
          refine lv_iinc (v := v_9) (lv' := [(1, .int (v_9)), (3, .null), (2, .ref (mad E (o_3))), (0, .ref (mad E (y0)))]) hx hb dX3_settle_43 hl (k := 3) rfl (by rw [← e_v_9]; rfl) (by decide) rfl (fun ls hl => ?_)
          refine lv_goto (tgt := 2) hx hb dX3_settle_46 (by decide) ?_
          exact ih _ _ _ _ _ _ hT Z (lv_sub hl [3, 0] rfl) k0
        · replace hT := mx_os hT
          refine mx_tops (s2 := [.ref (mad E o_7)]) rfl ?_
          refine lv_astore_n (lv' := [(3, .ref (mad E (o_7))), (2, .ref (mad E (o_3))), (0, .ref (mad E (y0))), (1, .int (w1))]) hx hb dX3_settle_25 rfl hl (by decide) rfl (fun ls hl => ?_)
          refine lv_aload_n hx hb dX3_settle_26 rfl (lv_at hl 0 rfl) ?_
          refine lv_ifnull hx hb dX3_settle_27 ?_
          refine lv_aload_n hx hb dX3_settle_30 rfl (lv_at hl 0 rfl) ?_
          refine lv_dup hx hb dX3_settle_31 rfl ?_
          refine mx_get (v := .int (G o_7 5)) (ci := 2) (C := RX2) (T := TX2) (N := 6) X Z ((hk_8 o_7 rfl)).i (((hk_8 o_7 rfl)).c _) rfl inlX2 5 (by decide) wd_19_13 rfl dX3_settle_32 ?_
          refine lv_aload_n hx hb dX3_settle_35 rfl (lv_at hl 1 rfl) ?_
          obtain ⟨q_10, h_q_10, hT⟩ := mx_bind hT
          refine mx_callV (As := []) (rest := [.int (G o_7 5), .ref (mad E (o_7))]) (st1 := [.int (q_10), .int (G o_7 5), .ref (mad E (o_7))]) (C := RX4) (T := TX4) (N := 10) (ci := 4) X Z hl.1 (c4_weight l E hJ ((hk_4 o_3 rfl)) _ _ h_q_10) wd_11_8 wd_11_9 wd_11_10 wd_5_0 wd_11_11 hd4_weight ⟨Nat.le_trans (by decide) hR.1, Nat.le_trans (by decide) hR.2⟩ ⟨Nat.zero_le _, Nat.zero_le _⟩ ((hk_4 o_3 rfl)).i (((hk_4 o_3 rfl)).c _) rfl (Nat.le_of_ble_eq_true rfl) rfl rfl dX3_settle_36 (fun H locs Z => ?_)
          refine lv_iadd hx hb dX3_settle_39 ?_
          obtain ⟨G_11, e_G_11, hT⟩ := mx_nm hT
          refine mx_put (ci := 2) (C := RX2) (T := TX2) (N := 6) X Z ((hk_8 o_7 rfl)).i (((hk_8 o_7 rfl)).c _) rfl inlX2 tyX2 tyX2_ok nmX2 5 (by decide) wd_19_13 rfl rfl rfl (by show 5 < 6; decide) ((((hk_8 o_7 rfl)).c _).trans (congrArg (fun z => Sum.inr (2, z)) (sp_Sg_5 _ _ _))) dX3_settle_40 (fun H locs Z => ?_)
          rw [e_G_11] at Z
          obtain ⟨v_12, e_v_12, hT⟩ := mx_nm hT
          refine lv_iinc (v := v_12) (lv' := [(1, .int (v_12)), (3, .ref (mad E (o_7))), (2, .ref (mad E (o_3))), (0, .ref (mad E (y0)))]) hx hb dX3_settle_43 hl (k := 3) rfl (by rw [← e_v_12]; rfl) (by decide) rfl (fun ls hl => ?_)
          refine lv_goto (tgt := 2) hx hb dX3_settle_46 (by decide) ?_
          exact ih _ _ _ _ _ _ hT Z (lv_sub hl [3, 0] rfl) k0
set_option maxHeartbeats 4000000 in
set_option maxRecDepth 100000 in
theorem k3_settle_51 {p : Program} {l : Launch} {e : Env} {R : Room} {s : State} {m : MethodId} {args : Array Value} {below : List Frame} {meth : Method} {cd : Code} {Q : State → Prop} {E : mE} (X : mX p s m args cd cX3_settle 4 RX3 E) (hR : 2 ≤ R.frames ∧ 42 ≤ R.locals) (hJ : mJ E) {y0 : Nat} (hy0 : mSt E y0) : ∀ (n : Nat) (w1 : Int32) (G : mM) (H : Heap) (locs : List Loc) (ls : Array Slot) (r : mM), x3_settle_L51 y0 n w1 G = some r → mZ E s.heap H locs G → lv_has ls 4 [(0, .ref (mad E (y0))), (1, .int (w1))] → (∀ (H : Heap) (locs : List Loc) (ls : Array Slot), mZ E s.heap H locs r → lv_has ls 4 [(0, .ref (mad E (y0)))] → W p l e R s m args below meth cd H locs 0 0 Q (F0 m 98 ls [])) → W p l e R s m args below meth cd H locs 0 0 Q (F0 m 51 ls []) := by
  have hx := X.1
  have hb := X.2.1
  have hown := X.2.2.2.1
  have hts := X.2.2.2.2.1
  intro n
  induction n with
  | zero =>
    intro w1 G H locs ls r hT
    rw [x3_settle_L51] at hT
    cases hT
  | succ n ih =>
    intro w1 G H locs ls r hT Z hl k0
    rw [x3_settle_L51] at hT
    refine lv_iload_n hx hb dX3_settle_51 rfl (lv_at hl 1 rfl) ?_
    refine lv_bipush (v := (12 : Int32)) hx hb dX3_settle_52 (by decide) ?_
    refine lv_icmp_ge (tgt := 98) hx hb dX3_settle_54 (by decide) (fun h_14 => ?_) (fun h_14 => ?_)
    · replace hT := mx_t hT h_14
      cases hT
      exact k0 _ _ _ Z (lv_sub hl [0] rfl)
    · replace hT := mx_f hT h_14
      refine lv_aload_n hx hb dX3_settle_57 rfl (lv_at hl 0 rfl) ?_
      refine lv_iload_n hx hb dX3_settle_58 rfl (lv_at hl 1 rfl) ?_
      obtain ⟨q_15, h_q_15, hT⟩ := mx_bind hT
      refine mx_callV (As := [.int (w1)]) (rest := []) (st1 := [va_re (mad E) q_15]) (C := RX3) (T := TX3) (N := 11) (ci := 3) X Z hl.1 (c3_segmentAt l E hJ hy0 _ _ _ h_q_15) wd_6_4 wd_6_5 wd_6_6 wd_1_16 wd_6_7 hd3_segmentAt ⟨Nat.le_trans (by decide) hR.1, Nat.le_trans (by decide) hR.2⟩ ⟨Nat.zero_le _, Nat.zero_le _⟩ hy0.i (hy0.c _) rfl (Nat.le_of_ble_eq_true rfl) rfl rfl dX3_settle_59 (fun H locs Z => ?_)
      have hk_17 := c3_segmentAt_k E hy0 _ _ _ h_q_15
      rcases q_15 with _ | o_16
      · replace hT := mx_on hT
        refine mx_tops (s2 := [.null]) rfl ?_
        refine lv_astore_nN (lv' := [(2, .null), (0, .ref (mad E (y0))), (1, .int (w1))]) hx hb dX3_settle_62 rfl hl (by decide) rfl (fun ls hl => ?_)
        refine lv_aload_nN hx hb dX3_settle_63 rfl (lv_at hl 0 rfl) ?_
        refine lv_ifnullN (tgt := 92) hx hb dX3_settle_64 (by decide) ?_
        obtain ⟨v_18, e_v_18, hT⟩ := mx_nm hT
        refine lv_iinc (v := v_18) (lv' := [(1, .int (v_18)), (2, .null), (0, .ref (mad E (y0)))]) hx hb dX3_settle_92 hl (k := 2) rfl (by rw [← e_v_18]; rfl) (by decide) rfl (fun ls hl => ?_)
        refine lv_goto (tgt := 51) hx hb dX3_settle_95 (by decide) ?_
        exact ih _ _ _ _ _ _ hT Z (lv_sub hl [2, 0] rfl) k0
      · replace hT := mx_os hT
        refine mx_tops (s2 := [.ref (mad E o_16)]) rfl ?_
        refine lv_astore_n (lv' := [(2, .ref (mad E (o_16))), (0, .ref (mad E (y0))), (1, .int (w1))]) hx hb dX3_settle_62 rfl hl (by decide) rfl (fun ls hl => ?_)
        refine lv_aload_n hx hb dX3_settle_63 rfl (lv_at hl 0 rfl) ?_
        refine lv_ifnull hx hb dX3_settle_64 ?_
        refine lv_aload_n hx hb dX3_settle_67 rfl (lv_at hl 0 rfl) ?_
        refine lv_aload_n hx hb dX3_settle_68 rfl (lv_at hl 1 rfl) ?_
        refine mx_get (v := .ref (mad E ((y0 + 3)))) (ci := 3) (C := RX3) (T := TX3) (N := 11) X Z hy0.i (hy0.c _) rfl inlX3 2 (by decide) wd_5_1 rfl dX3_settle_69 ?_
        refine lv_iconst (v := (1 : Int32)) hx hb dX3_settle_72 (by decide) ?_
        refine mx_iald X Z hy0.sets (mx_lit (by decide)) dX3_settle_73 ?_
        refine mx_tops (s2 := [.int (G ((y0 + 3)) 1), .ref (mad E (o_16))]) rfl ?_
        obtain ⟨q_19, h_q_19, hT⟩ := mx_bind hT
        refine mx_callV (As := [.int (G ((y0 + 3)) 1)]) (rest := []) (st1 := []) (C := RX2) (T := TX2) (N := 6) (ci := 2) X Z hl.1 (c2_settle l E hJ ((hk_17 o_16 rfl)) _ _ _ h_q_19) wd_19_14 wd_19_15 wd_19_16 wd_4_20 wd_19_17 hd2_settle ⟨Nat.le_trans (by decide) hR.1, Nat.le_trans (by decide) hR.2⟩ ⟨Nat.zero_le _, Nat.zero_le _⟩ ((hk_17 o_16 rfl)).i (((hk_17 o_16 rfl)).c _) rfl (Nat.le_of_ble_eq_true rfl) rfl rfl dX3_settle_74 (fun H locs Z => ?_)
        refine lv_aload_n hx hb dX3_settle_77 rfl (lv_at hl 1 rfl) ?_
        refine lv_aload_n hx hb dX3_settle_78 rfl (lv_at hl 1 rfl) ?_
        refine mx_get (v := .int (q_19 y0 10)) (ci := 3) (C := RX3) (T := TX3) (N := 11) X Z hy0.i (hy0.c _) rfl inlX3 10 (by decide) wd_18_2 rfl dX3_settle_79 ?_
        refine lv_aload_n hx hb dX3_settle_82 rfl (lv_at hl 0 rfl) ?_
        refine mx_get (v := .int (q_19 o_16 2)) (ci := 2) (C := RX2) (T := TX2) (N := 6) X Z ((hk_17 o_16 rfl)).i (((hk_17 o_16 rfl)).c _) rfl inlX2 2 (by decide) wd_13_6 rfl dX3_settle_83 ?_
        refine mx_max X hl.1 wd_15_20 wd_15_21 wd_15_22 wd_15_23 (Nat.le_trans (by decide) hR.1) (Nat.le_trans (Nat.le_of_ble_eq_true rfl) hR.2) ⟨Nat.zero_le _, Nat.zero_le _⟩ dX3_settle_86 ?_
        obtain ⟨v_20, e_v_20, hT⟩ := mx_nm hT
        refine mx_tops (congrArg (fun z => (.int (z) :: [.ref (mad E (y0))] : List Value)) e_v_20) ?_
        obtain ⟨G_21, e_G_21, hT⟩ := mx_nm hT
        refine mx_put (ci := 3) (C := RX3) (T := TX3) (N := 11) X Z hy0.i (hy0.c _) rfl inlX3 tyX3 tyX3_ok nmX3 10 (by decide) wd_18_2 rfl rfl rfl (by show 10 < 11; decide) ((hy0.c _).trans (congrArg (fun z => Sum.inr (3, z)) (sp_St_10 (mad E) _ _ _))) dX3_settle_89 (fun H locs Z => ?_)
        rw [e_G_21] at Z
        obtain ⟨v_22, e_v_22, hT⟩ := mx_nm hT
        refine lv_iinc (v := v_22) (lv' := [(1, .int (v_22)), (2, .ref (mad E (o_16))), (0, .ref (mad E (y0)))]) hx hb dX3_settle_92 hl (k := 2) rfl (by rw [← e_v_22]; rfl) (by decide) rfl (fun ls hl => ?_)
        refine lv_goto (tgt := 51) hx hb dX3_settle_95 (by decide) ?_
        exact ih _ _ _ _ _ _ hT Z (lv_sub hl [2, 0] rfl) k0
set_option maxHeartbeats 4000000 in
set_option maxRecDepth 100000 in
theorem c3_settle (l : Launch) (E : mE) (hJ : mJ E) {c : Nat} (hc : mSt E c) (G : mM) (q : mM) (hT : x3_settle c G = some q) : mMet l E yX3_settle cX3_settle 4 none 2 42 [.ref (mad E (c))] G (none) q := by
  refine Met.ofW (cc := cX3_settle) (maxL := 4) (ret := none) (by decide) rfl ?_
  intro p e s m args below meth cd s₁ B hml hv
  obtain ⟨rfl, hP, hK, hS⟩ := hv
  have X := mx_entry (own := RX3) B hml hK hJ hS rfl
  have hx := X.1
  have hb := X.2.1
  have hown := X.2.2.2.1
  have hts := X.2.2.2.2.1
  have hr := B.returns
  have hlocks := B.notSynchronized
  have hR : 2 ≤ (headSpec (mWs yX3_settle cX3_settle 4 none) ({ frames := 2, cells := 0, slots := 0, locals := 42 })).room.frames ∧ 42 ≤ (headSpec (mWs yX3_settle cX3_settle 4 none) ({ frames := 2, cells := 0, slots := 0, locals := 42 })).room.locals := ⟨Nat.le_refl _, Nat.le_refl _⟩
  have Z : mZ E s.heap s.heap [] G := ⟨hP, va_S.rf⟩
  have hl := lv_entry ([.ref (mad E (c))]) (n := 4) (Nat.le_of_ble_eq_true rfl)
  rw [lg_entry_eq]
  generalize (lg_sl ([.ref (mad E (c))]) ++ List.replicate (4 - (lg_sl ([.ref (mad E (c))])).length) Slot.unset).toArray = ls at hl ⊢
  have hl : lv_has ls 4 [(0, .ref (mad E (c)))] := hl
  unfold x3_settle at hT
  refine lv_iconst (v := (0 : Int32)) hx hb dX3_settle_0 (by decide) ?_
  refine lv_istore_n (lv' := [(1, .int ((0 : Int32))), (0, .ref (mad E (c)))]) hx hb dX3_settle_1 rfl hl (by decide) rfl (fun ls hl => ?_)
  obtain ⟨q_13, h_q_13, hT⟩ := mx_bind hT
  refine k3_settle_2 X hR hJ hc  _ _ _ _ _ _ _ h_q_13 Z (lv_sub (l' := [(0, .ref (mad E (c))), (1, .int ((0 : Int32)))]) hl [1, 0] rfl) (fun H locs ls Z hl => ?_)
  · refine lv_iconst (v := (0 : Int32)) hx hb dX3_settle_49 (by decide) ?_
    refine lv_istore_n (lv' := [(1, .int ((0 : Int32))), (0, .ref (mad E (c)))]) hx hb dX3_settle_50 rfl hl (by decide) rfl (fun ls hl => ?_)
    obtain ⟨q_23, h_q_23, hT⟩ := mx_bind hT
    refine k3_settle_51 X hR hJ hc  _ _ _ _ _ _ _ h_q_23 Z (lv_sub (l' := [(0, .ref (mad E (c))), (1, .int ((0 : Int32)))]) hl [1, 0] rfl) (fun H locs ls Z hl => ?_)
    · cases hT
      exact W.vret hx hb hr (fun t ht hW => mx_end Z t ht _) Z.2.2.2 dX3_settle_98
/-! PeatRailway$State.tick -/
def x3_tick_L2 (y0 : Nat) : Nat → Int32 → mM → Option (mM)
  | 0, _, _ => none
  | n + 1, w1, G =>
    if ((4 : Int32)) ≤ w1 then
      some (G)
    else
      (x3_trainAt y0 w1 G).bind fun q_2 =>
      mOpt q_2 (
        mNm (w1 + (1 : Int32)) fun v_5 =>
        x3_tick_L2 y0 n v_5 G) fun o_3 =>
        (x3_goesFirst y0 o_3 G).bind fun q_6 =>
        mCk (mBl q_6) <|
        mNm (up2 G o_3 9 q_6) fun G_8 =>
        mNm (w1 + (1 : Int32)) fun v_9 =>
        x3_tick_L2 y0 n v_9 G_8
def x3_tick_L41 (y0 : Nat) (y1 : Int32) : Nat → Int32 → mM → Option (mM)
  | 0, _, _ => none
  | n + 1, w2, G =>
    if ((4 : Int32)) ≤ w2 then
      some (G)
    else
      (x3_trainAt y0 w2 G).bind fun q_13 =>
      mOpt q_13 (
        mNm (w2 + (1 : Int32)) fun v_16 =>
        x3_tick_L41 y0 y1 n v_16 G) fun o_14 =>
        if y1 = 0 then
          if (G o_14 9) = ((1 : Int32)) then
            (x3_takeTurn y0 o_14 G).bind fun q_24 =>
            mNm (w2 + (1 : Int32)) fun v_25 =>
            x3_tick_L41 y0 y1 n v_25 q_24
          else
            mNm (w2 + (1 : Int32)) fun v_23 =>
            x3_tick_L41 y0 y1 n v_23 G
        else
          if (G o_14 9) = ((0 : Int32)) then
            (x3_takeTurn y0 o_14 G).bind fun q_20 =>
            mNm (w2 + (1 : Int32)) fun v_21 =>
            x3_tick_L41 y0 y1 n v_21 q_20
          else
            mNm (w2 + (1 : Int32)) fun v_19 =>
            x3_tick_L41 y0 y1 n v_19 G
def x3_tick_L34 (y0 : Nat) : Nat → Int32 → mM → Option (mM)
  | 0, _, _ => none
  | n + 1, w1, G =>
    if ((2 : Int32)) ≤ w1 then
      some (G)
    else
      (x3_tick_L41 y0 w1 mFu ((0 : Int32)) G).bind fun q_26 =>
      mNm (w1 + (1 : Int32)) fun v_27 =>
      x3_tick_L34 y0 n v_27 q_26
def x3_tick (c : Nat) (G : mM) : Option mM :=
  (x3_tick_L2 c mFu ((0 : Int32)) G).bind fun q_10 =>
  (x3_tick_L34 c mFu ((0 : Int32)) q_10).bind fun q_28 =>
  (x3_settle c q_28).bind fun q_29 =>
  mNm (up2 q_29 c 9 ((q_29 c 9) + ((1 : Int32)))) fun G_30 =>
  some (G_30)
theorem hd3_tick : yX3_tick.cls = RX3 ∧ yX3_tick.cls ≠ "java/lang/invoke/MethodHandle" ∧ yX3_tick.cls ≠ "java/lang/invoke/VarHandle" ∧ (parseMethodDescriptor yX3_tick.desc).map (fun d => d.parameters.length) = some 0 := by decide +kernel
set_option maxHeartbeats 4000000 in
set_option maxRecDepth 100000 in
theorem k3_tick_2 {p : Program} {l : Launch} {e : Env} {R : Room} {s : State} {m : MethodId} {args : Array Value} {below : List Frame} {meth : Method} {cd : Code} {Q : State → Prop} {E : mE} (X : mX p s m args cd cX3_tick 4 RX3 E) (hR : 4 ≤ R.frames ∧ 92 ≤ R.locals) (hJ : mJ E) {y0 : Nat} (hy0 : mSt E y0) : ∀ (n : Nat) (w1 : Int32) (G : mM) (H : Heap) (locs : List Loc) (ls : Array Slot) (r : mM), x3_tick_L2 y0 n w1 G = some r → mZ E s.heap H locs G → lv_has ls 4 [(0, .ref (mad E (y0))), (1, .int (w1))] → (∀ (H : Heap) (locs : List Loc) (ls : Array Slot), mZ E s.heap H locs r → lv_has ls 4 [(0, .ref (mad E (y0)))] → W p l e R s m args below meth cd H locs 0 0 Q (F0 m 32 ls [])) → W p l e R s m args below meth cd H locs 0 0 Q (F0 m 2 ls []) := by
  have hx := X.1
  have hb := X.2.1
  have hown := X.2.2.2.1
  have hts := X.2.2.2.2.1
  intro n
  induction n with
  | zero =>
    intro w1 G H locs ls r hT
    rw [x3_tick_L2] at hT
    cases hT
  | succ n ih =>
    intro w1 G H locs ls r hT Z hl k0
    rw [x3_tick_L2] at hT
    refine lv_iload_n hx hb dX3_tick_2 rfl (lv_at hl 1 rfl) ?_
    refine lv_iconst (v := (4 : Int32)) hx hb dX3_tick_3 (by decide) ?_
    refine lv_icmp_ge (tgt := 32) hx hb dX3_tick_4 (by decide) (fun h_1 => ?_) (fun h_1 => ?_)
    · replace hT := mx_t hT h_1
      cases hT
      exact k0 _ _ _ Z (lv_sub hl [0] rfl)
    · replace hT := mx_f hT h_1
      refine lv_aload_n hx hb dX3_tick_7 rfl (lv_at hl 0 rfl) ?_
      refine lv_iload_n hx hb dX3_tick_8 rfl (lv_at hl 1 rfl) ?_
      obtain ⟨q_2, h_q_2, hT⟩ := mx_bind hT
      refine mx_callV (As := [.int (w1)]) (rest := []) (st1 := [va_re (mad E) q_2]) (C := RX3) (T := TX3) (N := 11) (ci := 3) X Z hl.1 (c3_trainAt l E hJ hy0 _ _ _ h_q_2) wd_11_0 wd_11_1 wd_11_2 wd_1_16 wd_11_3 hd3_trainAt ⟨Nat.le_trans (by decide) hR.1, Nat.le_trans (by decide) hR.2⟩ ⟨Nat.zero_le _, Nat.zero_le _⟩ hy0.i (hy0.c _) rfl (Nat.le_of_ble_eq_true rfl) rfl rfl dX3_tick_9 (fun H locs Z => ?_)
      have hk_4 := c3_trainAt_k E hy0 _ _ _ h_q_2
      rcases q_2 with _ | o_3
      · replace hT := mx_on hT
        refine mx_tops (s2 := [.null]) rfl ?_
        refine lv_astore_nN (lv' := [(2, .null), (0, .ref (mad E (y0))), (1, .int (w1))]) hx hb dX3_tick_12 rfl hl (by decide) rfl (fun ls hl => ?_)
        refine lv_aload_nN hx hb dX3_tick_13 rfl (lv_at hl 0 rfl) ?_
        refine lv_ifnullN (tgt := 26) hx hb dX3_tick_14 (by decide) ?_
        obtain ⟨v_5, e_v_5, hT⟩ := mx_nm hT
        refine lv_iinc (v := v_5) (lv' := [(1, .int (v_5)), (2, .null), (0, .ref (mad E (y0)))]) hx hb dX3_tick_26 hl (k := 2) rfl (by rw [← e_v_5]; rfl) (by decide) rfl (fun ls hl => ?_)
        refine lv_goto (tgt := 2) hx hb dX3_tick_29 (by decide) ?_
        exact ih _ _ _ _ _ _ hT Z (lv_sub hl [2, 0] rfl) k0
      · replace hT := mx_os hT
        refine mx_tops (s2 := [.ref (mad E o_3)]) rfl ?_
        refine lv_astore_n (lv' := [(2, .ref (mad E (o_3))), (0, .ref (mad E (y0))), (1, .int (w1))]) hx hb dX3_tick_12 rfl hl (by decide) rfl (fun ls hl => ?_)
        refine lv_aload_n hx hb dX3_tick_13 rfl (lv_at hl 0 rfl) ?_
        refine lv_ifnull hx hb dX3_tick_14 ?_
        refine lv_aload_n hx hb dX3_tick_17 rfl (lv_at hl 0 rfl) ?_
        refine lv_aload_n hx hb dX3_tick_18 rfl (lv_at hl 1 rfl) ?_
        refine lv_aload_n hx hb dX3_tick_19 rfl (lv_at hl 0 rfl) ?_
        obtain ⟨q_6, h_q_6, hT⟩ := mx_bind hT
        refine mx_callV (As := [.ref (mad E (o_3))]) (rest := [.ref (mad E (o_3))]) (st1 := [.int (q_6), .ref (mad E (o_3))]) (C := RX3) (T := TX3) (N := 11) (ci := 3) X Z hl.1 (c3_goesFirst l E hJ hy0 ((hk_4 o_3 rfl)) _ _ h_q_6) wd_18_8 wd_18_9 wd_18_10 wd_1_16 wd_18_11 hd3_goesFirst ⟨Nat.le_trans (by decide) hR.1, Nat.le_trans (by decide) hR.2⟩ ⟨Nat.zero_le _, Nat.zero_le _⟩ hy0.i (hy0.c _) rfl (Nat.le_of_ble_eq_true rfl) rfl rfl dX3_tick_20 (fun H locs Z => ?_)
        obtain ⟨h_7, hT⟩ := mx_chk hT
        obtain ⟨G_8, e_G_8, hT⟩ := mx_nm hT
        refine mx_put (ci := 4) (C := RX4) (T := TX4) (N := 10) X Z ((hk_4 o_3 rfl)).i (((hk_4 o_3 rfl)).c _) rfl inlX4 tyX4 tyX4_ok nmX4 9 (by decide) wd_18_7 rfl (mBl.n h_7) (mBl.f h_7) (by show 9 < 10; decide) ((((hk_4 o_3 rfl)).c _).trans (congrArg (fun z => Sum.inr (4, z)) (sp_Tr_9 _ _ _))) dX3_tick_23 (fun H locs Z => ?_)
        rw [e_G_8] at Z
        obtain ⟨v_9, e_v_9, hT⟩ := mx_nm hT
        refine lv_iinc (v := v_9) (lv' := [(1, .int (v_9)), (2, .ref (mad E (o_3))), (0, .ref (mad E (y0)))]) hx hb dX3_tick_26 hl (k := 2) rfl (by rw [← e_v_9]; rfl) (by decide) rfl (fun ls hl => ?_)
        refine lv_goto (tgt := 2) hx hb dX3_tick_29 (by decide) ?_
        exact ih _ _ _ _ _ _ hT Z (lv_sub hl [2, 0] rfl) k0
set_option maxHeartbeats 4000000 in
set_option maxRecDepth 100000 in
theorem k3_tick_41 {p : Program} {l : Launch} {e : Env} {R : Room} {s : State} {m : MethodId} {args : Array Value} {below : List Frame} {meth : Method} {cd : Code} {Q : State → Prop} {E : mE} (X : mX p s m args cd cX3_tick 4 RX3 E) (hR : 4 ≤ R.frames ∧ 92 ≤ R.locals) (hJ : mJ E) {y0 : Nat} (hy0 : mSt E y0) (y1 : Int32) : ∀ (n : Nat) (w2 : Int32) (G : mM) (H : Heap) (locs : List Loc) (ls : Array Slot) (r : mM), x3_tick_L41 y0 y1 n w2 G = some r → mZ E s.heap H locs G → lv_has ls 4 [(0, .ref (mad E (y0))), (1, .int (y1)), (2, .int (w2))] → (∀ (H : Heap) (locs : List Loc) (ls : Array Slot), mZ E s.heap H locs r → lv_has ls 4 [(0, .ref (mad E (y0))), (1, .int (y1))] → W p l e R s m args below meth cd H locs 0 0 Q (F0 m 83 ls [])) → W p l e R s m args below meth cd H locs 0 0 Q (F0 m 41 ls []) := by
  have hx := X.1
  have hb := X.2.1
  have hown := X.2.2.2.1
  have hts := X.2.2.2.2.1
  intro n
  induction n with
  | zero =>
    intro w2 G H locs ls r hT
    rw [x3_tick_L41] at hT
    cases hT
  | succ n ih =>
    intro w2 G H locs ls r hT Z hl k0
    rw [x3_tick_L41] at hT
    refine lv_iload_n hx hb dX3_tick_41 rfl (lv_at hl 2 rfl) ?_
    refine lv_iconst (v := (4 : Int32)) hx hb dX3_tick_42 (by decide) ?_
    refine lv_icmp_ge (tgt := 83) hx hb dX3_tick_43 (by decide) (fun h_12 => ?_) (fun h_12 => ?_)
    · replace hT := mx_t hT h_12
      cases hT
      exact k0 _ _ _ Z (lv_sub hl [0, 1] rfl)
    · replace hT := mx_f hT h_12
      refine lv_aload_n hx hb dX3_tick_46 rfl (lv_at hl 0 rfl) ?_
      refine lv_iload_n hx hb dX3_tick_47 rfl (lv_at hl 2 rfl) ?_
      obtain ⟨q_13, h_q_13, hT⟩ := mx_bind hT
      refine mx_callV (As := [.int (w2)]) (rest := []) (st1 := [va_re (mad E) q_13]) (C := RX3) (T := TX3) (N := 11) (ci := 3) X Z hl.1 (c3_trainAt l E hJ hy0 _ _ _ h_q_13) wd_11_0 wd_11_1 wd_11_2 wd_1_16 wd_11_3 hd3_trainAt ⟨Nat.le_trans (by decide) hR.1, Nat.le_trans (by decide) hR.2⟩ ⟨Nat.zero_le _, Nat.zero_le _⟩ hy0.i (hy0.c _) rfl (Nat.le_of_ble_eq_true rfl) rfl rfl dX3_tick_48 (fun H locs Z => ?_)
      have hk_15 := c3_trainAt_k E hy0 _ _ _ h_q_13
      rcases q_13 with _ | o_14
      · replace hT := mx_on hT
        refine mx_tops (s2 := [.null]) rfl ?_
        refine lv_astore_nN (lv' := [(3, .null), (0, .ref (mad E (y0))), (1, .int (y1)), (2, .int (w2))]) hx hb dX3_tick_51 rfl hl (by decide) rfl (fun ls hl => ?_)
        refine lv_aload_nN hx hb dX3_tick_52 rfl (lv_at hl 0 rfl) ?_
        refine lv_ifnullN (tgt := 77) hx hb dX3_tick_53 (by decide) ?_
        obtain ⟨v_16, e_v_16, hT⟩ := mx_nm hT
        refine lv_iinc (v := v_16) (lv' := [(2, .int (v_16)), (3, .null), (0, .ref (mad E (y0))), (1, .int (y1))]) hx hb dX3_tick_77 hl (k := 3) rfl (by rw [← e_v_16]; rfl) (by decide) rfl (fun ls hl => ?_)
        refine lv_goto (tgt := 41) hx hb dX3_tick_80 (by decide) ?_
        exact ih _ _ _ _ _ _ hT Z (lv_sub hl [2, 3, 0] rfl) k0
      · replace hT := mx_os hT
        refine mx_tops (s2 := [.ref (mad E o_14)]) rfl ?_
        refine lv_astore_n (lv' := [(3, .ref (mad E (o_14))), (0, .ref (mad E (y0))), (1, .int (y1)), (2, .int (w2))]) hx hb dX3_tick_51 rfl hl (by decide) rfl (fun ls hl => ?_)
        refine lv_aload_n hx hb dX3_tick_52 rfl (lv_at hl 0 rfl) ?_
        refine lv_ifnull hx hb dX3_tick_53 ?_
        refine lv_aload_n hx hb dX3_tick_56 rfl (lv_at hl 0 rfl) ?_
        refine mx_get (v := .int (G o_14 9)) (ci := 4) (C := RX4) (T := TX4) (N := 10) X Z ((hk_15 o_14 rfl)).i (((hk_15 o_14 rfl)).c _) rfl inlX4 9 (by decide) wd_18_7 rfl dX3_tick_57 ?_
        refine lv_iload_n hx hb dX3_tick_60 rfl (lv_at hl 2 rfl) ?_
        refine lv_if_ne (tgt := 68) hx hb dX3_tick_61 (by decide) (fun h_17 => ?_) (fun h_17 => ?_)
        · replace hT := mx_f hT h_17
          refine lv_iconst (v := (0 : Int32)) hx hb dX3_tick_68 (by decide) ?_
          refine lv_icmp_ne (tgt := 77) hx hb dX3_tick_69 (by decide) (fun h_18 => ?_) (fun h_18 => ?_)
          · replace hT := mx_f hT h_18
            obtain ⟨v_19, e_v_19, hT⟩ := mx_nm hT
            refine lv_iinc (v := v_19) (lv' := [(2, .int (v_19)), (3, .ref (mad E (o_14))), (0, .ref (mad E (y0))), (1, .int (y1))]) hx hb dX3_tick_77 hl (k := 3) rfl (by rw [← e_v_19]; rfl) (by decide) rfl (fun ls hl => ?_)
            refine lv_goto (tgt := 41) hx hb dX3_tick_80 (by decide) ?_
            exact ih _ _ _ _ _ _ hT Z (lv_sub hl [2, 3, 0] rfl) k0
          · replace hT := mx_t hT h_18
            refine lv_aload_n hx hb dX3_tick_72 rfl (lv_at hl 1 rfl) ?_
            refine lv_aload_n hx hb dX3_tick_73 rfl (lv_at hl 0 rfl) ?_
            obtain ⟨q_20, h_q_20, hT⟩ := mx_bind hT
            refine mx_callV (As := [.ref (mad E (o_14))]) (rest := []) (st1 := []) (C := RX3) (T := TX3) (N := 11) (ci := 3) X Z hl.1 (c3_takeTurn l E hJ hy0 ((hk_15 o_14 rfl)) _ _ h_q_20) wd_18_12 wd_18_13 wd_18_14 wd_1_16 wd_18_15 hd3_takeTurn ⟨Nat.le_trans (by decide) hR.1, Nat.le_trans (by decide) hR.2⟩ ⟨Nat.zero_le _, Nat.zero_le _⟩ hy0.i (hy0.c _) rfl (Nat.le_of_ble_eq_true rfl) rfl rfl dX3_tick_74 (fun H locs Z => ?_)
            obtain ⟨v_21, e_v_21, hT⟩ := mx_nm hT
            refine lv_iinc (v := v_21) (lv' := [(2, .int (v_21)), (3, .ref (mad E (o_14))), (0, .ref (mad E (y0))), (1, .int (y1))]) hx hb dX3_tick_77 hl (k := 3) rfl (by rw [← e_v_21]; rfl) (by decide) rfl (fun ls hl => ?_)
            refine lv_goto (tgt := 41) hx hb dX3_tick_80 (by decide) ?_
            exact ih _ _ _ _ _ _ hT Z (lv_sub hl [2, 3, 0] rfl) k0
        · replace hT := mx_t hT h_17
          refine lv_iconst (v := (1 : Int32)) hx hb dX3_tick_64 (by decide) ?_
          refine lv_goto (tgt := 69) hx hb dX3_tick_65 (by decide) ?_
          refine lv_icmp_ne (tgt := 77) hx hb dX3_tick_69 (by decide) (fun h_22 => ?_) (fun h_22 => ?_)
          · replace hT := mx_f hT h_22
            obtain ⟨v_23, e_v_23, hT⟩ := mx_nm hT
            refine lv_iinc (v := v_23) (lv' := [(2, .int (v_23)), (3, .ref (mad E (o_14))), (0, .ref (mad E (y0))), (1, .int (y1))]) hx hb dX3_tick_77 hl (k := 3) rfl (by rw [← e_v_23]; rfl) (by decide) rfl (fun ls hl => ?_)
            refine lv_goto (tgt := 41) hx hb dX3_tick_80 (by decide) ?_
            exact ih _ _ _ _ _ _ hT Z (lv_sub hl [2, 3, 0] rfl) k0
          · replace hT := mx_t hT h_22
            refine lv_aload_n hx hb dX3_tick_72 rfl (lv_at hl 1 rfl) ?_
            refine lv_aload_n hx hb dX3_tick_73 rfl (lv_at hl 0 rfl) ?_
            obtain ⟨q_24, h_q_24, hT⟩ := mx_bind hT
            refine mx_callV (As := [.ref (mad E (o_14))]) (rest := []) (st1 := []) (C := RX3) (T := TX3) (N := 11) (ci := 3) X Z hl.1 (c3_takeTurn l E hJ hy0 ((hk_15 o_14 rfl)) _ _ h_q_24) wd_18_12 wd_18_13 wd_18_14 wd_1_16 wd_18_15 hd3_takeTurn ⟨Nat.le_trans (by decide) hR.1, Nat.le_trans (by decide) hR.2⟩ ⟨Nat.zero_le _, Nat.zero_le _⟩ hy0.i (hy0.c _) rfl (Nat.le_of_ble_eq_true rfl) rfl rfl dX3_tick_74 (fun H locs Z => ?_)
            obtain ⟨v_25, e_v_25, hT⟩ := mx_nm hT
            refine lv_iinc (v := v_25) (lv' := [(2, .int (v_25)), (3, .ref (mad E (o_14))), (0, .ref (mad E (y0))), (1, .int (y1))]) hx hb dX3_tick_77 hl (k := 3) rfl (by rw [← e_v_25]; rfl) (by decide) rfl (fun ls hl => ?_)
            refine lv_goto (tgt := 41) hx hb dX3_tick_80 (by decide) ?_
            exact ih _ _ _ _ _ _ hT Z (lv_sub hl [2, 3, 0] rfl) k0
set_option maxHeartbeats 4000000 in
set_option maxRecDepth 100000 in
theorem k3_tick_34 {p : Program} {l : Launch} {e : Env} {R : Room} {s : State} {m : MethodId} {args : Array Value} {below : List Frame} {meth : Method} {cd : Code} {Q : State → Prop} {E : mE} (X : mX p s m args cd cX3_tick 4 RX3 E) (hR : 4 ≤ R.frames ∧ 92 ≤ R.locals) (hJ : mJ E) {y0 : Nat} (hy0 : mSt E y0) : ∀ (n : Nat) (w1 : Int32) (G : mM) (H : Heap) (locs : List Loc) (ls : Array Slot) (r : mM), x3_tick_L34 y0 n w1 G = some r → mZ E s.heap H locs G → lv_has ls 4 [(0, .ref (mad E (y0))), (1, .int (w1))] → (∀ (H : Heap) (locs : List Loc) (ls : Array Slot), mZ E s.heap H locs r → lv_has ls 4 [(0, .ref (mad E (y0)))] → W p l e R s m args below meth cd H locs 0 0 Q (F0 m 89 ls [])) → W p l e R s m args below meth cd H locs 0 0 Q (F0 m 34 ls []) := by
  have hx := X.1
  have hb := X.2.1
  have hown := X.2.2.2.1
  have hts := X.2.2.2.2.1
  intro n
  induction n with
  | zero =>
    intro w1 G H locs ls r hT
    rw [x3_tick_L34] at hT
    cases hT
  | succ n ih =>
    intro w1 G H locs ls r hT Z hl k0
    rw [x3_tick_L34] at hT
    refine lv_iload_n hx hb dX3_tick_34 rfl (lv_at hl 1 rfl) ?_
    refine lv_iconst (v := (2 : Int32)) hx hb dX3_tick_35 (by decide) ?_
    refine lv_icmp_ge (tgt := 89) hx hb dX3_tick_36 (by decide) (fun h_11 => ?_) (fun h_11 => ?_)
    · replace hT := mx_t hT h_11
      cases hT
      exact k0 _ _ _ Z (lv_sub hl [0] rfl)
    · replace hT := mx_f hT h_11
      refine lv_iconst (v := (0 : Int32)) hx hb dX3_tick_39 (by decide) ?_
      refine lv_istore_n (lv' := [(2, .int ((0 : Int32))), (0, .ref (mad E (y0))), (1, .int (w1))]) hx hb dX3_tick_40 rfl hl (by decide) rfl (fun ls hl => ?_)
      obtain ⟨q_26, h_q_26, hT⟩ := mx_bind hT
      refine k3_tick_41 X hR hJ hy0 _ _ _ _ _ _ _ _ h_q_26 Z (lv_sub (l' := [(0, .ref (mad E (y0))), (1, .int (w1)), (2, .int ((0 : Int32)))]) hl [1, 2, 0] rfl) (fun H locs ls Z hl => ?_)
      · obtain ⟨v_27, e_v_27, hT⟩ := mx_nm hT
        refine lv_iinc (v := v_27) (lv' := [(1, .int (v_27)), (0, .ref (mad E (y0)))]) hx hb dX3_tick_83 hl (k := 1) rfl (by rw [← e_v_27]; rfl) (by decide) rfl (fun ls hl => ?_)
        refine lv_goto (tgt := 34) hx hb dX3_tick_86 (by decide) ?_
        exact ih _ _ _ _ _ _ hT Z (lv_sub hl [1, 0] rfl) k0
set_option maxHeartbeats 4000000 in
set_option maxRecDepth 100000 in
theorem c3_tick (l : Launch) (E : mE) (hJ : mJ E) {c : Nat} (hc : mSt E c) (G : mM) (q : mM) (hT : x3_tick c G = some q) : mMet l E yX3_tick cX3_tick 4 none 4 92 [.ref (mad E (c))] G (none) q := by
  refine Met.ofW (cc := cX3_tick) (maxL := 4) (ret := none) (by decide) rfl ?_
  intro p e s m args below meth cd s₁ B hml hv
  obtain ⟨rfl, hP, hK, hS⟩ := hv
  have X := mx_entry (own := RX3) B hml hK hJ hS rfl
  have hx := X.1
  have hb := X.2.1
  have hown := X.2.2.2.1
  have hts := X.2.2.2.2.1
  have hr := B.returns
  have hlocks := B.notSynchronized
  have hR : 4 ≤ (headSpec (mWs yX3_tick cX3_tick 4 none) ({ frames := 4, cells := 0, slots := 0, locals := 92 })).room.frames ∧ 92 ≤ (headSpec (mWs yX3_tick cX3_tick 4 none) ({ frames := 4, cells := 0, slots := 0, locals := 92 })).room.locals := ⟨Nat.le_refl _, Nat.le_refl _⟩
  have Z : mZ E s.heap s.heap [] G := ⟨hP, va_S.rf⟩
  have hl := lv_entry ([.ref (mad E (c))]) (n := 4) (Nat.le_of_ble_eq_true rfl)
  rw [lg_entry_eq]
  generalize (lg_sl ([.ref (mad E (c))]) ++ List.replicate (4 - (lg_sl ([.ref (mad E (c))])).length) Slot.unset).toArray = ls at hl ⊢
  have hl : lv_has ls 4 [(0, .ref (mad E (c)))] := hl
  unfold x3_tick at hT
  refine lv_iconst (v := (0 : Int32)) hx hb dX3_tick_0 (by decide) ?_
  refine lv_istore_n (lv' := [(1, .int ((0 : Int32))), (0, .ref (mad E (c)))]) hx hb dX3_tick_1 rfl hl (by decide) rfl (fun ls hl => ?_)
  obtain ⟨q_10, h_q_10, hT⟩ := mx_bind hT
  refine k3_tick_2 X hR hJ hc  _ _ _ _ _ _ _ h_q_10 Z (lv_sub (l' := [(0, .ref (mad E (c))), (1, .int ((0 : Int32)))]) hl [1, 0] rfl) (fun H locs ls Z hl => ?_)
  · refine lv_iconst (v := (0 : Int32)) hx hb dX3_tick_32 (by decide) ?_
    refine lv_istore_n (lv' := [(1, .int ((0 : Int32))), (0, .ref (mad E (c)))]) hx hb dX3_tick_33 rfl hl (by decide) rfl (fun ls hl => ?_)
    obtain ⟨q_28, h_q_28, hT⟩ := mx_bind hT
    refine k3_tick_34 X hR hJ hc  _ _ _ _ _ _ _ h_q_28 Z (lv_sub (l' := [(0, .ref (mad E (c))), (1, .int ((0 : Int32)))]) hl [1, 0] rfl) (fun H locs ls Z hl => ?_)
    · refine lv_aload_n hx hb dX3_tick_89 rfl (lv_at hl 0 rfl) ?_
      obtain ⟨q_29, h_q_29, hT⟩ := mx_bind hT
      refine mx_callV (As := []) (rest := []) (st1 := []) (C := RX3) (T := TX3) (N := 11) (ci := 3) X Z hl.1 (c3_settle l E hJ hc _ _ h_q_29) wd_19_9 wd_19_10 wd_19_11 wd_1_16 wd_19_12 hd3_settle ⟨Nat.le_trans (by decide) hR.1, Nat.le_trans (by decide) hR.2⟩ ⟨Nat.zero_le _, Nat.zero_le _⟩ hc.i (hc.c _) rfl (Nat.le_of_ble_eq_true rfl) rfl rfl dX3_tick_90 (fun H locs Z => ?_)
      refine lv_aload_n hx hb dX3_tick_93 rfl (lv_at hl 0 rfl) ?_
      refine lv_dup hx hb dX3_tick_94 rfl ?_
      refine mx_get (v := .int (q_29 c 9)) (ci := 3) (C := RX3) (T := TX3) (N := 11) X Z hc.i (hc.c _) rfl inlX3 9 (by decide) wd_8_15 rfl dX3_tick_95 ?_
      refine lv_iconst (v := (1 : Int32)) hx hb dX3_tick_98 (by decide) ?_
      refine lv_iadd hx hb dX3_tick_99 ?_
      obtain ⟨G_30, e_G_30, hT⟩ := mx_nm hT
      refine mx_put (ci := 3) (C := RX3) (T := TX3) (N := 11) X Z hc.i (hc.c _) rfl inlX3 tyX3 tyX3_ok nmX3 9 (by decide) wd_8_15 rfl rfl rfl (by show 9 < 11; decide) ((hc.c _).trans (congrArg (fun z => Sum.inr (3, z)) (sp_St_9 (mad E) _ _ _))) dX3_tick_100 (fun H locs Z => ?_)
      rw [e_G_30] at Z
      cases hT
      exact W.vret hx hb hr (fun t ht hW => mx_end Z t ht _) Z.2.2.2 dX3_tick_103
/-! PeatRailway$State.pass -/
def x3_pass_L12 (y0 : Nat) (y1 : Int32) (y2 : Int32) : Nat → Int32 → mM → Option (mM)
  | 0, _, _ => none
  | n + 1, w3, G =>
    if y1 ≤ w3 then
      some (G)
    else
      (x3_tick y0 G).bind fun q_4 =>
      mNm (w3 + (1 : Int32)) fun v_5 =>
      x3_pass_L12 y0 y1 y2 n v_5 q_4
def x3_pass (c : Nat) (x1 : Int32) (G : mM) : Option (Int32 × mM) :=
  mNm (G c 7) fun v_1 =>
  mNm (up2 G c 10 ((0 : Int32))) fun G_2 =>
  (x3_pass_L12 c x1 v_1 mFu ((0 : Int32)) G_2).bind fun q_6 =>
  some ((q_6 c 7) - v_1, q_6)
theorem hd3_pass : yX3_pass.cls = RX3 ∧ yX3_pass.cls ≠ "java/lang/invoke/MethodHandle" ∧ yX3_pass.cls ≠ "java/lang/invoke/VarHandle" ∧ (parseMethodDescriptor yX3_pass.desc).map (fun d => d.parameters.length) = some 1 := by decide +kernel
set_option maxHeartbeats 4000000 in
set_option maxRecDepth 100000 in
theorem k3_pass_12 {p : Program} {l : Launch} {e : Env} {R : Room} {s : State} {m : MethodId} {args : Array Value} {below : List Frame} {meth : Method} {cd : Code} {Q : State → Prop} {E : mE} (X : mX p s m args cd cX3_pass 4 RX3 E) (hR : 5 ≤ R.frames ∧ 115 ≤ R.locals) (hJ : mJ E) {y0 : Nat} (hy0 : mSt E y0) (y1 : Int32) (y2 : Int32) : ∀ (n : Nat) (w3 : Int32) (G : mM) (H : Heap) (locs : List Loc) (ls : Array Slot) (r : mM), x3_pass_L12 y0 y1 y2 n w3 G = some r → mZ E s.heap H locs G → lv_has ls 4 [(0, .ref (mad E (y0))), (1, .int (y1)), (2, .int (y2)), (3, .int (w3))] → (∀ (H : Heap) (locs : List Loc) (ls : Array Slot), mZ E s.heap H locs r → lv_has ls 4 [(0, .ref (mad E (y0))), (1, .int (y1)), (2, .int (y2))] → W p l e R s m args below meth cd H locs 0 0 Q (F0 m 27 ls [])) → W p l e R s m args below meth cd H locs 0 0 Q (F0 m 12 ls []) := by
  have hx := X.1
  have hb := X.2.1
  have hown := X.2.2.2.1
  have hts := X.2.2.2.2.1
  intro n
  induction n with
  | zero =>
    intro w3 G H locs ls r hT
    rw [x3_pass_L12] at hT
    cases hT
  | succ n ih =>
    intro w3 G H locs ls r hT Z hl k0
    rw [x3_pass_L12] at hT
    refine lv_iload_n hx hb dX3_pass_12 rfl (lv_at hl 3 rfl) ?_
    refine lv_iload_n hx hb dX3_pass_13 rfl (lv_at hl 1 rfl) ?_
    refine lv_icmp_ge (tgt := 27) hx hb dX3_pass_14 (by decide) (fun h_3 => ?_) (fun h_3 => ?_)
    · replace hT := mx_t hT h_3
      cases hT
      exact k0 _ _ _ Z (lv_sub hl [0, 1, 2] rfl)
    · replace hT := mx_f hT h_3
      refine lv_aload_n hx hb dX3_pass_17 rfl (lv_at hl 0 rfl) ?_
      obtain ⟨q_4, h_q_4, hT⟩ := mx_bind hT
      refine mx_callV (As := []) (rest := []) (st1 := []) (C := RX3) (T := TX3) (N := 11) (ci := 3) X Z hl.1 (c3_tick l E hJ hy0 _ _ h_q_4) wd_18_3 wd_18_4 wd_18_5 wd_1_16 wd_18_6 hd3_tick ⟨Nat.le_trans (by decide) hR.1, Nat.le_trans (by decide) hR.2⟩ ⟨Nat.zero_le _, Nat.zero_le _⟩ hy0.i (hy0.c _) rfl (Nat.le_of_ble_eq_true rfl) rfl rfl dX3_pass_18 (fun H locs Z => ?_)
      obtain ⟨v_5, e_v_5, hT⟩ := mx_nm hT
      refine lv_iinc (v := v_5) (lv' := [(3, .int (v_5)), (0, .ref (mad E (y0))), (1, .int (y1)), (2, .int (y2))]) hx hb dX3_pass_21 hl (k := 3) rfl (by rw [← e_v_5]; rfl) (by decide) rfl (fun ls hl => ?_)
      refine lv_goto (tgt := 12) hx hb dX3_pass_24 (by decide) ?_
      exact ih _ _ _ _ _ _ hT Z (lv_sub hl [1, 2, 3, 0] rfl) k0
set_option maxHeartbeats 4000000 in
set_option maxRecDepth 100000 in
theorem c3_pass (l : Launch) (E : mE) (hJ : mJ E) {c : Nat} (hc : mSt E c) (x1 : Int32) (G : mM) (q : (Int32 × mM)) (hT : x3_pass c x1 G = some q) : mMet l E yX3_pass cX3_pass 4 (some .int) 5 115 [.ref (mad E (c)), .int (x1)] G (some (.int q.1)) q.2 := by
  refine Met.ofW (cc := cX3_pass) (maxL := 4) (ret := (some .int)) (by decide) rfl ?_
  intro p e s m args below meth cd s₁ B hml hv
  obtain ⟨rfl, hP, hK, hS⟩ := hv
  have X := mx_entry (own := RX3) B hml hK hJ hS rfl
  have hx := X.1
  have hb := X.2.1
  have hown := X.2.2.2.1
  have hts := X.2.2.2.2.1
  have hr := B.returns
  have hlocks := B.notSynchronized
  have hR : 5 ≤ (headSpec (mWs yX3_pass cX3_pass 4 (some .int)) ({ frames := 5, cells := 0, slots := 0, locals := 115 })).room.frames ∧ 115 ≤ (headSpec (mWs yX3_pass cX3_pass 4 (some .int)) ({ frames := 5, cells := 0, slots := 0, locals := 115 })).room.locals := ⟨Nat.le_refl _, Nat.le_refl _⟩
  have Z : mZ E s.heap s.heap [] G := ⟨hP, va_S.rf⟩
  have hl := lv_entry ([.ref (mad E (c)), .int (x1)]) (n := 4) (Nat.le_of_ble_eq_true rfl)
  rw [lg_entry_eq]
  generalize (lg_sl ([.ref (mad E (c)), .int (x1)]) ++ List.replicate (4 - (lg_sl ([.ref (mad E (c)), .int (x1)])).length) Slot.unset).toArray = ls at hl ⊢
  have hl : lv_has ls 4 [(0, .ref (mad E (c))), (1, .int (x1))] := hl
  unfold x3_pass at hT
  refine lv_aload_n hx hb dX3_pass_0 rfl (lv_at hl 0 rfl) ?_
  refine mx_get (v := .int (G c 7)) (ci := 3) (C := RX3) (T := TX3) (N := 11) X Z hc.i (hc.c _) rfl inlX3 7 (by decide) wd_8_13 rfl dX3_pass_1 ?_
  obtain ⟨v_1, e_v_1, hT⟩ := mx_nm hT
  refine mx_tops (congrArg (fun z => (.int (z) :: [] : List Value)) e_v_1) ?_
  refine lv_istore_n (lv' := [(2, .int (v_1)), (0, .ref (mad E (c))), (1, .int (x1))]) hx hb dX3_pass_4 rfl hl (by decide) rfl (fun ls hl => ?_)
  refine lv_aload_n hx hb dX3_pass_5 rfl (lv_at hl 1 rfl) ?_
  refine lv_iconst (v := (0 : Int32)) hx hb dX3_pass_6 (by decide) ?_
  obtain ⟨G_2, e_G_2, hT⟩ := mx_nm hT
  refine mx_put (ci := 3) (C := RX3) (T := TX3) (N := 11) X Z hc.i (hc.c _) rfl inlX3 tyX3 tyX3_ok nmX3 10 (by decide) wd_18_2 rfl rfl rfl (by show 10 < 11; decide) ((hc.c _).trans (congrArg (fun z => Sum.inr (3, z)) (sp_St_10 (mad E) _ _ _))) dX3_pass_7 (fun H locs Z => ?_)
  rw [e_G_2] at Z
  refine lv_iconst (v := (0 : Int32)) hx hb dX3_pass_10 (by decide) ?_
  refine lv_istore_n (lv' := [(3, .int ((0 : Int32))), (2, .int (v_1)), (0, .ref (mad E (c))), (1, .int (x1))]) hx hb dX3_pass_11 rfl hl (by decide) rfl (fun ls hl => ?_)
  obtain ⟨q_6, h_q_6, hT⟩ := mx_bind hT
  refine k3_pass_12 X hR hJ hc _ _ _ _ _ _ _ _ _ h_q_6 Z (lv_sub (l' := [(0, .ref (mad E (c))), (1, .int (x1)), (2, .int (v_1)), (3, .int ((0 : Int32)))]) hl [2, 3, 1, 0] rfl) (fun H locs ls Z hl => ?_)
  · refine lv_aload_n hx hb dX3_pass_27 rfl (lv_at hl 0 rfl) ?_
    refine mx_get (v := .int (q_6 c 7)) (ci := 3) (C := RX3) (T := TX3) (N := 11) X Z hc.i (hc.c _) rfl inlX3 7 (by decide) wd_8_13 rfl dX3_pass_28 ?_
    refine lv_iload_n hx hb dX3_pass_31 rfl (lv_at hl 2 rfl) ?_
    refine lv_isub hx hb dX3_pass_32 ?_
    cases hT
    exact W.iret hx hb hr (fun t ht hW => mx_end Z t ht _) Z.2.2.2 dX3_pass_33
/-! PeatRailway.run -/
def x5_run (x1 : Int32) (G : mM) : Option (Int32 × mM) :=
  (x5_isRun x1 G).bind fun q_1 =>
  if q_1 = 0 then
    some ((-2 : Int32), G)
  else
    (x0_remember 0 G).bind fun q_3 =>
    (x3_pass 0 x1 q_3).bind fun q_4 =>
    some (q_4.1, q_4.2)
theorem hd5_run : yX5_run.cls = RX5 ∧ yX5_run.cls ≠ "java/lang/invoke/MethodHandle" ∧ yX5_run.cls ≠ "java/lang/invoke/VarHandle" ∧ (parseMethodDescriptor yX5_run.desc).map (fun d => d.parameters.length) = some 1 := by decide +kernel
set_option maxHeartbeats 4000000 in
set_option maxRecDepth 100000 in
theorem c5_run (l : Launch) (E : mE) (hJ : mJ E) (hc : mAl E 240) (x1 : Int32) (G : mM) (q : (Int32 × mM)) (hT : x5_run x1 G = some q) : mMet l E yX5_run cX5_run 2 (some .int) 6 138 [.ref (mad E (240)), .int (x1)] G (some (.int q.1)) q.2 := by
  refine Met.ofW (cc := cX5_run) (maxL := 2) (ret := (some .int)) (by decide) rfl ?_
  intro p e s m args below meth cd s₁ B hml hv
  obtain ⟨rfl, hP, hK, hS⟩ := hv
  have X := mx_entry (own := RX5) B hml hK hJ hS rfl
  have hx := X.1
  have hb := X.2.1
  have hown := X.2.2.2.1
  have hts := X.2.2.2.2.1
  have hr := B.returns
  have hlocks := B.notSynchronized
  have hR : 6 ≤ (headSpec (mWs yX5_run cX5_run 2 (some .int)) ({ frames := 6, cells := 0, slots := 0, locals := 138 })).room.frames ∧ 138 ≤ (headSpec (mWs yX5_run cX5_run 2 (some .int)) ({ frames := 6, cells := 0, slots := 0, locals := 138 })).room.locals := ⟨Nat.le_refl _, Nat.le_refl _⟩
  have Z : mZ E s.heap s.heap [] G := ⟨hP, va_S.rf⟩
  have hl := lv_entry ([.ref (mad E (240)), .int (x1)]) (n := 2) (Nat.le_of_ble_eq_true rfl)
  rw [lg_entry_eq]
  generalize (lg_sl ([.ref (mad E (240)), .int (x1)]) ++ List.replicate (2 - (lg_sl ([.ref (mad E (240)), .int (x1)])).length) Slot.unset).toArray = ls at hl ⊢
  have hl : lv_has ls 2 [(0, .ref (mad E (240))), (1, .int (x1))] := hl
  unfold x5_run at hT
  refine lv_iload_n hx hb dX5_run_0 rfl (lv_at hl 1 rfl) ?_
  obtain ⟨q_1, h_q_1, hT⟩ := mx_bind hT
  refine mx_callS (As := [.int (x1)]) (rest := []) (st1 := [.int (q_1)]) X Z hl.1 (c5_isRun l E hJ _ _ _ h_q_1) wd_17_19 wd_17_20 wd_1_2 wd_17_21 hd5_isRun ⟨Nat.le_trans (by decide) hR.1, Nat.le_trans (by decide) hR.2⟩ ⟨Nat.zero_le _, Nat.zero_le _⟩ (Nat.le_of_ble_eq_true rfl) rfl rfl dX5_run_1 (fun H locs Z => ?_)
  refine lv_if_ne (tgt := 10) hx hb dX5_run_4 (by decide) (fun h_2 => ?_) (fun h_2 => ?_)
  · replace hT := mx_f hT h_2
    refine lv_aload_n hx hb dX5_run_10 rfl (lv_at hl 0 rfl) ?_
    refine mx_get (v := .ref (mad E (243))) (ci := 5) (C := RX5) (T := TX5) (N := 6) X Z hc.i (hc.c _) rfl inlX5 3 (by decide) wd_1_23 rfl dX5_run_11 ?_
    refine lv_aload_n hx hb dX5_run_14 rfl (lv_at hl 0 rfl) ?_
    refine mx_get (v := .ref (mad E (0))) (ci := 5) (C := RX5) (T := TX5) (N := 6) X Z hc.i (hc.c _) rfl inlX5 1 (by decide) wd_1_18 rfl dX5_run_15 ?_
    obtain ⟨q_3, h_q_3, hT⟩ := mx_bind hT
    refine mx_callV (As := [.ref (mad E (0))]) (rest := []) (st1 := []) (C := RX0) (T := TX0) (N := 2) (ci := 0) X Z hl.1 (c0_remember l E hJ hc.hi hc.now _ _ h_q_3) wd_9_20 wd_9_21 wd_9_22 wd_1_22 wd_9_23 hd0_remember ⟨Nat.le_trans (by decide) hR.1, Nat.le_trans (by decide) hR.2⟩ ⟨Nat.zero_le _, Nat.zero_le _⟩ hc.hi.i (hc.hi.c _) rfl (Nat.le_of_ble_eq_true rfl) rfl rfl dX5_run_18 (fun H locs Z => ?_)
    refine lv_aload_n hx hb dX5_run_21 rfl (lv_at hl 0 rfl) ?_
    refine mx_get (v := .ref (mad E (0))) (ci := 5) (C := RX5) (T := TX5) (N := 6) X Z hc.i (hc.c _) rfl inlX5 1 (by decide) wd_1_18 rfl dX5_run_22 ?_
    refine lv_iload_n hx hb dX5_run_25 rfl (lv_at hl 1 rfl) ?_
    obtain ⟨q_4, h_q_4, hT⟩ := mx_bind hT
    refine mx_callV (As := [.int (x1)]) (rest := []) (st1 := [.int (q_4.1)]) (C := RX3) (T := TX3) (N := 11) (ci := 3) X Z hl.1 (c3_pass l E hJ hc.now _ _ _ h_q_4) wd_17_22 wd_17_23 wd_18_0 wd_1_16 wd_18_1 hd3_pass ⟨Nat.le_trans (by decide) hR.1, Nat.le_trans (by decide) hR.2⟩ ⟨Nat.zero_le _, Nat.zero_le _⟩ hc.now.i (hc.now.c _) rfl (Nat.le_of_ble_eq_true rfl) rfl rfl dX5_run_26 (fun H locs Z => ?_)
    cases hT
    exact W.iret hx hb hr (fun t ht hW => mx_end Z t ht _) Z.2.2.2 dX5_run_29
  · replace hT := mx_t hT h_2
    refine lv_bipush (v := (-2 : Int32)) hx hb dX5_run_7 (by decide) ?_
    cases hT
    exact W.iret hx hb hr (fun t ht hW => mx_end Z t ht _) Z.2.2.2 dX5_run_9
/-! PeatRailway$History.size -/
def x0_size (G : mM) : Option Int32 :=
  some (G 243 1)
theorem hd0_size : yX0_size.cls = RX0 ∧ yX0_size.cls ≠ "java/lang/invoke/MethodHandle" ∧ yX0_size.cls ≠ "java/lang/invoke/VarHandle" ∧ (parseMethodDescriptor yX0_size.desc).map (fun d => d.parameters.length) = some 0 := by decide +kernel
set_option maxHeartbeats 4000000 in
set_option maxRecDepth 100000 in
theorem c0_size (l : Launch) (E : mE) (hJ : mJ E) (hc : mHi E 243) (G : mM) (q : Int32) (hT : x0_size G = some q) : mMet l E yX0_size cX0_size 1 (some .int) 0 0 [.ref (mad E (243))] G (some (.int q)) G := by
  refine Met.ofW (cc := cX0_size) (maxL := 1) (ret := (some .int)) (by decide) rfl ?_
  intro p e s m args below meth cd s₁ B hml hv
  obtain ⟨rfl, hP, hK, hS⟩ := hv
  have X := mx_entry (own := RX0) B hml hK hJ hS rfl
  have hx := X.1
  have hb := X.2.1
  have hown := X.2.2.2.1
  have hts := X.2.2.2.2.1
  have hr := B.returns
  have hlocks := B.notSynchronized
  have hR : 0 ≤ (headSpec (mWs yX0_size cX0_size 1 (some .int)) ({ frames := 0, cells := 0, slots := 0, locals := 0 })).room.frames ∧ 0 ≤ (headSpec (mWs yX0_size cX0_size 1 (some .int)) ({ frames := 0, cells := 0, slots := 0, locals := 0 })).room.locals := ⟨Nat.le_refl _, Nat.le_refl _⟩
  have Z : mZ E s.heap s.heap [] G := ⟨hP, va_S.rf⟩
  have hl := lv_entry ([.ref (mad E (243))]) (n := 1) (Nat.le_of_ble_eq_true rfl)
  rw [lg_entry_eq]
  generalize (lg_sl ([.ref (mad E (243))]) ++ List.replicate (1 - (lg_sl ([.ref (mad E (243))])).length) Slot.unset).toArray = ls at hl ⊢
  have hl : lv_has ls 1 [(0, .ref (mad E (243)))] := hl
  unfold x0_size at hT
  refine lv_aload_n hx hb dX0_size_0 rfl (lv_at hl 0 rfl) ?_
  refine mx_get (v := .int (G 243 1)) (ci := 0) (C := RX0) (T := TX0) (N := 2) X Z hc.i (hc.c _) rfl inlX0 1 (by decide) wd_8_1 rfl dX0_size_1 ?_
  cases hT
  exact W.iret hx hb hr (fun t ht hW => mx_end Z t ht _) Z.2.2.2 dX0_size_4
/-! PeatRailway$History.restore -/
def x0_restore (d1 : Nat) (G : mM) : Option mM :=
  if (G 243 1) ≤ 0 then
    some (G)
  else
    if ((8 : Int32)) < (G 243 1) then
      some (G)
    else
      mNm (up2 G 243 1 ((G 243 1) - ((1 : Int32)))) fun G_3 =>
      mCk (mIn (G_3 243 1) 8) <|
      mCk (mStP (G_3 244 ((G_3 243 1).toNatClampNeg)).toNatClampNeg) <|
      (x3_copyFrom d1 ((G_3 244 ((G_3 243 1).toNatClampNeg)).toNatClampNeg) G_3).bind fun q_6 =>
      some (q_6)
theorem hd0_restore : yX0_restore.cls = RX0 ∧ yX0_restore.cls ≠ "java/lang/invoke/MethodHandle" ∧ yX0_restore.cls ≠ "java/lang/invoke/VarHandle" ∧ (parseMethodDescriptor yX0_restore.desc).map (fun d => d.parameters.length) = some 1 := by decide +kernel
set_option maxHeartbeats 4000000 in
set_option maxRecDepth 100000 in
theorem c0_restore (l : Launch) (E : mE) (hJ : mJ E) {d1 : Nat} (hc : mHi E 243) (hd1 : mSt E d1) (G : mM) (q : mM) (hT : x0_restore d1 G = some q) : mMet l E yX0_restore cX0_restore 2 none 2 43 [.ref (mad E (243)), .ref (mad E (d1))] G (none) q := by
  refine Met.ofW (cc := cX0_restore) (maxL := 2) (ret := none) (by decide) rfl ?_
  intro p e s m args below meth cd s₁ B hml hv
  obtain ⟨rfl, hP, hK, hS⟩ := hv
  have X := mx_entry (own := RX0) B hml hK hJ hS rfl
  have hx := X.1
  have hb := X.2.1
  have hown := X.2.2.2.1
  have hts := X.2.2.2.2.1
  have hr := B.returns
  have hlocks := B.notSynchronized
  have hR : 2 ≤ (headSpec (mWs yX0_restore cX0_restore 2 none) ({ frames := 2, cells := 0, slots := 0, locals := 43 })).room.frames ∧ 43 ≤ (headSpec (mWs yX0_restore cX0_restore 2 none) ({ frames := 2, cells := 0, slots := 0, locals := 43 })).room.locals := ⟨Nat.le_refl _, Nat.le_refl _⟩
  have Z : mZ E s.heap s.heap [] G := ⟨hP, va_S.rf⟩
  have hl := lv_entry ([.ref (mad E (243)), .ref (mad E (d1))]) (n := 2) (Nat.le_of_ble_eq_true rfl)
  rw [lg_entry_eq]
  generalize (lg_sl ([.ref (mad E (243)), .ref (mad E (d1))]) ++ List.replicate (2 - (lg_sl ([.ref (mad E (243)), .ref (mad E (d1))])).length) Slot.unset).toArray = ls at hl ⊢
  have hl : lv_has ls 2 [(0, .ref (mad E (243))), (1, .ref (mad E (d1)))] := hl
  unfold x0_restore at hT
  refine lv_aload_n hx hb dX0_restore_0 rfl (lv_at hl 0 rfl) ?_
  refine mx_get (v := .int (G 243 1)) (ci := 0) (C := RX0) (T := TX0) (N := 2) X Z hc.i (hc.c _) rfl inlX0 1 (by decide) wd_8_1 rfl dX0_restore_1 ?_
  refine lv_if_le (tgt := 42) hx hb dX0_restore_4 (by decide) (fun h_1 => ?_) (fun h_1 => ?_)
  · replace hT := mx_t hT h_1
    cases hT
    exact W.vret hx hb hr (fun t ht hW => mx_end Z t ht _) Z.2.2.2 dX0_restore_42
  · replace hT := mx_f hT h_1
    refine lv_aload_n hx hb dX0_restore_7 rfl (lv_at hl 0 rfl) ?_
    refine mx_get (v := .int (G 243 1)) (ci := 0) (C := RX0) (T := TX0) (N := 2) X Z hc.i (hc.c _) rfl inlX0 1 (by decide) wd_8_1 rfl dX0_restore_8 ?_
    refine lv_aload_n hx hb dX0_restore_11 rfl (lv_at hl 0 rfl) ?_
    refine mx_get (v := .ref (mad E (244))) (ci := 0) (C := RX0) (T := TX0) (N := 2) X Z hc.i (hc.c _) rfl inlX0 0 (by decide) wd_7_15 rfl dX0_restore_12 ?_
    refine mx_alen (t := 3) (v := (8 : Int32)) X Z hc.states.1 (hc.states.2 _) rfl rfl dX0_restore_15 ?_
    refine lv_icmp_gt (tgt := 42) hx hb dX0_restore_16 (by decide) (fun h_2 => ?_) (fun h_2 => ?_)
    · replace hT := mx_t hT h_2
      cases hT
      exact W.vret hx hb hr (fun t ht hW => mx_end Z t ht _) Z.2.2.2 dX0_restore_42
    · replace hT := mx_f hT h_2
      refine lv_aload_n hx hb dX0_restore_19 rfl (lv_at hl 0 rfl) ?_
      refine lv_dup hx hb dX0_restore_20 rfl ?_
      refine mx_get (v := .int (G 243 1)) (ci := 0) (C := RX0) (T := TX0) (N := 2) X Z hc.i (hc.c _) rfl inlX0 1 (by decide) wd_8_1 rfl dX0_restore_21 ?_
      refine lv_iconst (v := (1 : Int32)) hx hb dX0_restore_24 (by decide) ?_
      refine lv_isub hx hb dX0_restore_25 ?_
      obtain ⟨G_3, e_G_3, hT⟩ := mx_nm hT
      refine mx_put (ci := 0) (C := RX0) (T := TX0) (N := 2) X Z hc.i (hc.c _) rfl inlX0 tyX0 tyX0_ok nmX0 1 (by decide) wd_8_1 rfl rfl rfl (by show 1 < 2; decide) ((hc.c _).trans (congrArg (fun z => Sum.inr (0, z)) (sp_Hi_1 (mad E) _ _ _))) dX0_restore_26 (fun H locs Z => ?_)
      rw [e_G_3] at Z
      refine lv_aload_n hx hb dX0_restore_29 rfl (lv_at hl 1 rfl) ?_
      refine lv_aload_n hx hb dX0_restore_30 rfl (lv_at hl 0 rfl) ?_
      refine mx_get (v := .ref (mad E (244))) (ci := 0) (C := RX0) (T := TX0) (N := 2) X Z hc.i (hc.c _) rfl inlX0 0 (by decide) wd_7_15 rfl dX0_restore_31 ?_
      refine lv_aload_n hx hb dX0_restore_34 rfl (lv_at hl 0 rfl) ?_
      refine mx_get (v := .int (G_3 243 1)) (ci := 0) (C := RX0) (T := TX0) (N := 2) X Z hc.i (hc.c _) rfl inlX0 1 (by decide) wd_8_1 rfl dX0_restore_35 ?_
      obtain ⟨h_4, hT⟩ := mx_chk hT
      refine mx_aald (C := "PeatRailway$State") X Z hc.states rfl h_4 dX0_restore_38 ?_
      obtain ⟨h_5, hT⟩ := mx_chk hT
      refine mx_tops (s2 := [.ref (mad E ((G_3 244 ((G_3 243 1).toNatClampNeg)).toNatClampNeg)), .ref (mad E (d1))]) rfl ?_
      obtain ⟨q_6, h_q_6, hT⟩ := mx_bind hT
      refine mx_callV (As := [.ref (mad E ((G_3 244 ((G_3 243 1).toNatClampNeg)).toNatClampNeg))]) (rest := []) (st1 := []) (C := RX3) (T := TX3) (N := 11) (ci := 3) X Z hl.1 (c3_copyFrom l E hJ hd1 (mStP.k h_5 hc.2) _ _ h_q_6) wd_8_6 wd_8_7 wd_8_8 wd_1_16 wd_8_9 hd3_copyFrom ⟨Nat.le_trans (by decide) hR.1, Nat.le_trans (by decide) hR.2⟩ ⟨Nat.zero_le _, Nat.zero_le _⟩ hd1.i (hd1.c _) rfl (Nat.le_of_ble_eq_true rfl) rfl rfl dX0_restore_39 (fun H locs Z => ?_)
      cases hT
      exact W.vret hx hb hr (fun t ht hW => mx_end Z t ht _) Z.2.2.2 dX0_restore_42
/-! PeatRailway.undo -/
def x5_undo (G : mM) : Option (Int32 × mM) :=
  (x0_size G).bind fun q_1 =>
  if q_1 = 0 then
    some ((-3 : Int32), G)
  else
    (x0_restore 0 G).bind fun q_3 =>
    (x0_size q_3).bind fun q_4 =>
    some (q_4, q_3)
theorem hd5_undo : yX5_undo.cls = RX5 ∧ yX5_undo.cls ≠ "java/lang/invoke/MethodHandle" ∧ yX5_undo.cls ≠ "java/lang/invoke/VarHandle" ∧ (parseMethodDescriptor yX5_undo.desc).map (fun d => d.parameters.length) = some 0 := by decide +kernel
set_option maxHeartbeats 4000000 in
set_option maxRecDepth 100000 in
theorem c5_undo (l : Launch) (E : mE) (hJ : mJ E) (hc : mAl E 240) (G : mM) (q : (Int32 × mM)) (hT : x5_undo G = some q) : mMet l E yX5_undo cX5_undo 1 (some .int) 3 64 [.ref (mad E (240))] G (some (.int q.1)) q.2 := by
  refine Met.ofW (cc := cX5_undo) (maxL := 1) (ret := (some .int)) (by decide) rfl ?_
  intro p e s m args below meth cd s₁ B hml hv
  obtain ⟨rfl, hP, hK, hS⟩ := hv
  have X := mx_entry (own := RX5) B hml hK hJ hS rfl
  have hx := X.1
  have hb := X.2.1
  have hown := X.2.2.2.1
  have hts := X.2.2.2.2.1
  have hr := B.returns
  have hlocks := B.notSynchronized
  have hR : 3 ≤ (headSpec (mWs yX5_undo cX5_undo 1 (some .int)) ({ frames := 3, cells := 0, slots := 0, locals := 64 })).room.frames ∧ 64 ≤ (headSpec (mWs yX5_undo cX5_undo 1 (some .int)) ({ frames := 3, cells := 0, slots := 0, locals := 64 })).room.locals := ⟨Nat.le_refl _, Nat.le_refl _⟩
  have Z : mZ E s.heap s.heap [] G := ⟨hP, va_S.rf⟩
  have hl := lv_entry ([.ref (mad E (240))]) (n := 1) (Nat.le_of_ble_eq_true rfl)
  rw [lg_entry_eq]
  generalize (lg_sl ([.ref (mad E (240))]) ++ List.replicate (1 - (lg_sl ([.ref (mad E (240))])).length) Slot.unset).toArray = ls at hl ⊢
  have hl : lv_has ls 1 [(0, .ref (mad E (240)))] := hl
  unfold x5_undo at hT
  refine lv_aload_n hx hb dX5_undo_0 rfl (lv_at hl 0 rfl) ?_
  refine mx_get (v := .ref (mad E (243))) (ci := 5) (C := RX5) (T := TX5) (N := 6) X Z hc.i (hc.c _) rfl inlX5 3 (by decide) wd_1_23 rfl dX5_undo_1 ?_
  obtain ⟨q_1, h_q_1, hT⟩ := mx_bind hT
  refine mx_callV (As := []) (rest := []) (st1 := [.int (q_1)]) (C := RX0) (T := TX0) (N := 2) (ci := 0) X Z hl.1 (c0_size l E hJ hc.hi _ _ h_q_1) wd_7_21 wd_7_22 wd_7_23 wd_1_22 wd_8_0 hd0_size ⟨Nat.le_trans (by decide) hR.1, Nat.le_trans (by decide) hR.2⟩ ⟨Nat.zero_le _, Nat.zero_le _⟩ hc.hi.i (hc.hi.c _) rfl (Nat.le_of_ble_eq_true rfl) rfl rfl dX5_undo_4 (fun H locs Z => ?_)
  refine lv_if_ne (tgt := 13) hx hb dX5_undo_7 (by decide) (fun h_2 => ?_) (fun h_2 => ?_)
  · replace hT := mx_f hT h_2
    refine lv_aload_n hx hb dX5_undo_13 rfl (lv_at hl 0 rfl) ?_
    refine mx_get (v := .ref (mad E (243))) (ci := 5) (C := RX5) (T := TX5) (N := 6) X Z hc.i (hc.c _) rfl inlX5 3 (by decide) wd_1_23 rfl dX5_undo_14 ?_
    refine lv_aload_n hx hb dX5_undo_17 rfl (lv_at hl 0 rfl) ?_
    refine mx_get (v := .ref (mad E (0))) (ci := 5) (C := RX5) (T := TX5) (N := 6) X Z hc.i (hc.c _) rfl inlX5 1 (by decide) wd_1_18 rfl dX5_undo_18 ?_
    obtain ⟨q_3, h_q_3, hT⟩ := mx_bind hT
    refine mx_callV (As := [.ref (mad E (0))]) (rest := []) (st1 := []) (C := RX0) (T := TX0) (N := 2) (ci := 0) X Z hl.1 (c0_restore l E hJ hc.hi hc.now _ _ h_q_3) wd_8_2 wd_8_3 wd_8_4 wd_1_22 wd_8_5 hd0_restore ⟨Nat.le_trans (by decide) hR.1, Nat.le_trans (by decide) hR.2⟩ ⟨Nat.zero_le _, Nat.zero_le _⟩ hc.hi.i (hc.hi.c _) rfl (Nat.le_of_ble_eq_true rfl) rfl rfl dX5_undo_21 (fun H locs Z => ?_)
    refine lv_aload_n hx hb dX5_undo_24 rfl (lv_at hl 0 rfl) ?_
    refine mx_get (v := .ref (mad E (243))) (ci := 5) (C := RX5) (T := TX5) (N := 6) X Z hc.i (hc.c _) rfl inlX5 3 (by decide) wd_1_23 rfl dX5_undo_25 ?_
    obtain ⟨q_4, h_q_4, hT⟩ := mx_bind hT
    refine mx_callV (As := []) (rest := []) (st1 := [.int (q_4)]) (C := RX0) (T := TX0) (N := 2) (ci := 0) X Z hl.1 (c0_size l E hJ hc.hi _ _ h_q_4) wd_7_21 wd_7_22 wd_7_23 wd_1_22 wd_8_0 hd0_size ⟨Nat.le_trans (by decide) hR.1, Nat.le_trans (by decide) hR.2⟩ ⟨Nat.zero_le _, Nat.zero_le _⟩ hc.hi.i (hc.hi.c _) rfl (Nat.le_of_ble_eq_true rfl) rfl rfl dX5_undo_28 (fun H locs Z => ?_)
    cases hT
    exact W.iret hx hb hr (fun t ht hW => mx_end Z t ht _) Z.2.2.2 dX5_undo_31
  · replace hT := mx_t hT h_2
    refine lv_bipush (v := (-3 : Int32)) hx hb dX5_undo_10 (by decide) ?_
    cases hT
    exact W.iret hx hb hr (fun t ht hW => mx_end Z t ht _) Z.2.2.2 dX5_undo_12
/-! PeatRailway.isImage -/
def x5_isImage (x0 : Int32) (G : mM) : Option Int32 :=
  if x0 < 0 then
    some ((0 : Int32))
  else
    if ((2 : Int32)) ≤ x0 then
      some ((0 : Int32))
    else
      some ((1 : Int32))
theorem hd5_isImage : yX5_isImage.cls ≠ "java/lang/invoke/MethodHandle" ∧ yX5_isImage.cls ≠ "java/lang/invoke/VarHandle" ∧ (parseMethodDescriptor yX5_isImage.desc).map (fun d => d.parameters.length) = some 1 := by decide +kernel
set_option maxHeartbeats 4000000 in
set_option maxRecDepth 100000 in
theorem c5_isImage (l : Launch) (E : mE) (hJ : mJ E) (x0 : Int32) (G : mM) (q : Int32) (hT : x5_isImage x0 G = some q) : mMet l E yX5_isImage cX5_isImage 1 (some .boolean) 0 0 [.int (x0)] G (some (.int q)) G := by
  refine Met.ofW (cc := cX5_isImage) (maxL := 1) (ret := (some .boolean)) (by decide) rfl ?_
  intro p e s m args below meth cd s₁ B hml hv
  obtain ⟨rfl, hP, hK, hS⟩ := hv
  have X := mx_entry (own := RX5) B hml hK hJ hS rfl
  have hx := X.1
  have hb := X.2.1
  have hown := X.2.2.2.1
  have hts := X.2.2.2.2.1
  have hr := B.returns
  have hlocks := B.notSynchronized
  have hR : 0 ≤ (headSpec (mWs yX5_isImage cX5_isImage 1 (some .boolean)) ({ frames := 0, cells := 0, slots := 0, locals := 0 })).room.frames ∧ 0 ≤ (headSpec (mWs yX5_isImage cX5_isImage 1 (some .boolean)) ({ frames := 0, cells := 0, slots := 0, locals := 0 })).room.locals := ⟨Nat.le_refl _, Nat.le_refl _⟩
  have Z : mZ E s.heap s.heap [] G := ⟨hP, va_S.rf⟩
  have hl := lv_entry ([.int (x0)]) (n := 1) (Nat.le_of_ble_eq_true rfl)
  rw [lg_entry_eq]
  generalize (lg_sl ([.int (x0)]) ++ List.replicate (1 - (lg_sl ([.int (x0)])).length) Slot.unset).toArray = ls at hl ⊢
  have hl : lv_has ls 1 [(0, .int (x0))] := hl
  unfold x5_isImage at hT
  refine lv_iload_n hx hb dX5_isImage_0 rfl (lv_at hl 0 rfl) ?_
  refine lv_if_lt (tgt := 13) hx hb dX5_isImage_1 (by decide) (fun h_1 => ?_) (fun h_1 => ?_)
  · replace hT := mx_t hT h_1
    refine lv_iconst (v := (0 : Int32)) hx hb dX5_isImage_13 (by decide) ?_
    cases hT
    exact W.zret (v := (0 : Int32)) hx hb hr rfl (fun t ht hW => mx_end Z t ht _) Z.2.2.2 dX5_isImage_14
  · replace hT := mx_f hT h_1
    refine lv_iload_n hx hb dX5_isImage_4 rfl (lv_at hl 0 rfl) ?_
    refine lv_iconst (v := (2 : Int32)) hx hb dX5_isImage_5 (by decide) ?_
    refine lv_icmp_ge (tgt := 13) hx hb dX5_isImage_6 (by decide) (fun h_2 => ?_) (fun h_2 => ?_)
    · replace hT := mx_t hT h_2
      refine lv_iconst (v := (0 : Int32)) hx hb dX5_isImage_13 (by decide) ?_
      cases hT
      exact W.zret (v := (0 : Int32)) hx hb hr rfl (fun t ht hW => mx_end Z t ht _) Z.2.2.2 dX5_isImage_14
    · replace hT := mx_f hT h_2
      refine lv_iconst (v := (1 : Int32)) hx hb dX5_isImage_9 (by decide) ?_
      refine lv_goto (tgt := 14) hx hb dX5_isImage_10 (by decide) ?_
      cases hT
      exact W.zret (v := (1 : Int32)) hx hb hr rfl (fun t ht hW => mx_end Z t ht _) Z.2.2.2 dX5_isImage_14
/-! PeatRailway.back -/
def x5_back (x1 : Int32) (G : mM) : Option (Int32 × mM) :=
  (x5_isImage x1 G).bind fun q_1 =>
  if q_1 = 0 then
    some ((-2 : Int32), G)
  else
    if ((G 240 5) &&& (((1 : Int32)) <<< (x1 &&& 31))) = 0 then
      some ((-3 : Int32), G)
    else
      (x0_remember 0 G).bind fun q_4 =>
      mCk (mIn x1 2) <|
      (x3_copyFrom 0 (200 + 20 * x1.toNatClampNeg) q_4).bind fun q_6 =>
      some (q_6 0 9, q_6)
theorem hd5_back : yX5_back.cls = RX5 ∧ yX5_back.cls ≠ "java/lang/invoke/MethodHandle" ∧ yX5_back.cls ≠ "java/lang/invoke/VarHandle" ∧ (parseMethodDescriptor yX5_back.desc).map (fun d => d.parameters.length) = some 1 := by decide +kernel
set_option maxHeartbeats 4000000 in
set_option maxRecDepth 100000 in
theorem c5_back (l : Launch) (E : mE) (hJ : mJ E) (hc : mAl E 240) (x1 : Int32) (G : mM) (q : (Int32 × mM)) (hT : x5_back x1 G = some q) : mMet l E yX5_back cX5_back 2 (some .int) 3 64 [.ref (mad E (240)), .int (x1)] G (some (.int q.1)) q.2 := by
  refine Met.ofW (cc := cX5_back) (maxL := 2) (ret := (some .int)) (by decide) rfl ?_
  intro p e s m args below meth cd s₁ B hml hv
  obtain ⟨rfl, hP, hK, hS⟩ := hv
  have X := mx_entry (own := RX5) B hml hK hJ hS rfl
  have hx := X.1
  have hb := X.2.1
  have hown := X.2.2.2.1
  have hts := X.2.2.2.2.1
  have hr := B.returns
  have hlocks := B.notSynchronized
  have hR : 3 ≤ (headSpec (mWs yX5_back cX5_back 2 (some .int)) ({ frames := 3, cells := 0, slots := 0, locals := 64 })).room.frames ∧ 64 ≤ (headSpec (mWs yX5_back cX5_back 2 (some .int)) ({ frames := 3, cells := 0, slots := 0, locals := 64 })).room.locals := ⟨Nat.le_refl _, Nat.le_refl _⟩
  have Z : mZ E s.heap s.heap [] G := ⟨hP, va_S.rf⟩
  have hl := lv_entry ([.ref (mad E (240)), .int (x1)]) (n := 2) (Nat.le_of_ble_eq_true rfl)
  rw [lg_entry_eq]
  generalize (lg_sl ([.ref (mad E (240)), .int (x1)]) ++ List.replicate (2 - (lg_sl ([.ref (mad E (240)), .int (x1)])).length) Slot.unset).toArray = ls at hl ⊢
  have hl : lv_has ls 2 [(0, .ref (mad E (240))), (1, .int (x1))] := hl
  unfold x5_back at hT
  refine lv_iload_n hx hb dX5_back_0 rfl (lv_at hl 1 rfl) ?_
  obtain ⟨q_1, h_q_1, hT⟩ := mx_bind hT
  refine mx_callS (As := [.int (x1)]) (rest := []) (st1 := [.int (q_1)]) X Z hl.1 (c5_isImage l E hJ _ _ _ h_q_1) wd_9_17 wd_9_18 wd_1_2 wd_9_19 hd5_isImage ⟨Nat.le_trans (by decide) hR.1, Nat.le_trans (by decide) hR.2⟩ ⟨Nat.zero_le _, Nat.zero_le _⟩ (Nat.le_of_ble_eq_true rfl) rfl rfl dX5_back_1 (fun H locs Z => ?_)
  refine lv_if_ne (tgt := 10) hx hb dX5_back_4 (by decide) (fun h_2 => ?_) (fun h_2 => ?_)
  · replace hT := mx_f hT h_2
    refine lv_aload_n hx hb dX5_back_10 rfl (lv_at hl 0 rfl) ?_
    refine mx_get (v := .int (G 240 5)) (ci := 5) (C := RX5) (T := TX5) (N := 6) X Z hc.i (hc.c _) rfl inlX5 5 (by decide) wd_9_15 rfl dX5_back_11 ?_
    refine lv_iconst (v := (1 : Int32)) hx hb dX5_back_14 (by decide) ?_
    refine lv_iload_n hx hb dX5_back_15 rfl (lv_at hl 1 rfl) ?_
    refine lv_ishl hx hb dX5_back_16 ?_
    refine lv_iand hx hb dX5_back_17 ?_
    refine lv_if_ne (tgt := 24) hx hb dX5_back_18 (by decide) (fun h_3 => ?_) (fun h_3 => ?_)
    · replace hT := mx_f hT h_3
      refine lv_aload_n hx hb dX5_back_24 rfl (lv_at hl 0 rfl) ?_
      refine mx_get (v := .ref (mad E (243))) (ci := 5) (C := RX5) (T := TX5) (N := 6) X Z hc.i (hc.c _) rfl inlX5 3 (by decide) wd_1_23 rfl dX5_back_25 ?_
      refine lv_aload_n hx hb dX5_back_28 rfl (lv_at hl 0 rfl) ?_
      refine mx_get (v := .ref (mad E (0))) (ci := 5) (C := RX5) (T := TX5) (N := 6) X Z hc.i (hc.c _) rfl inlX5 1 (by decide) wd_1_18 rfl dX5_back_29 ?_
      obtain ⟨q_4, h_q_4, hT⟩ := mx_bind hT
      refine mx_callV (As := [.ref (mad E (0))]) (rest := []) (st1 := []) (C := RX0) (T := TX0) (N := 2) (ci := 0) X Z hl.1 (c0_remember l E hJ hc.hi hc.now _ _ h_q_4) wd_9_20 wd_9_21 wd_9_22 wd_1_22 wd_9_23 hd0_remember ⟨Nat.le_trans (by decide) hR.1, Nat.le_trans (by decide) hR.2⟩ ⟨Nat.zero_le _, Nat.zero_le _⟩ hc.hi.i (hc.hi.c _) rfl (Nat.le_of_ble_eq_true rfl) rfl rfl dX5_back_32 (fun H locs Z => ?_)
      refine lv_aload_n hx hb dX5_back_35 rfl (lv_at hl 0 rfl) ?_
      refine mx_get (v := .ref (mad E (0))) (ci := 5) (C := RX5) (T := TX5) (N := 6) X Z hc.i (hc.c _) rfl inlX5 1 (by decide) wd_1_18 rfl dX5_back_36 ?_
      refine lv_aload_n hx hb dX5_back_39 rfl (lv_at hl 0 rfl) ?_
      refine mx_get (v := .ref (mad E (245))) (ci := 5) (C := RX5) (T := TX5) (N := 6) X Z hc.i (hc.c _) rfl inlX5 4 (by decide) wd_2_0 rfl dX5_back_40 ?_
      refine lv_iload_n hx hb dX5_back_43 rfl (lv_at hl 1 rfl) ?_
      obtain ⟨h_5, hT⟩ := mx_chk hT
      refine mx_aald (C := "PeatRailway$State") X Z hc.images rfl h_5 dX5_back_44 ?_
      refine mx_tops (s2 := [.ref (mad E (200 + 20 * x1.toNatClampNeg)), .ref (mad E (0))]) rfl ?_
      obtain ⟨q_6, h_q_6, hT⟩ := mx_bind hT
      refine mx_callV (As := [.ref (mad E (200 + 20 * x1.toNatClampNeg))]) (rest := []) (st1 := []) (C := RX3) (T := TX3) (N := 11) (ci := 3) X Z hl.1 (c3_copyFrom l E hJ hc.now (hc.img h_5) _ _ h_q_6) wd_10_4 wd_8_7 wd_8_8 wd_1_16 wd_8_9 hd3_copyFrom ⟨Nat.le_trans (by decide) hR.1, Nat.le_trans (by decide) hR.2⟩ ⟨Nat.zero_le _, Nat.zero_le _⟩ hc.now.i (hc.now.c _) rfl (Nat.le_of_ble_eq_true rfl) rfl rfl dX5_back_45 (fun H locs Z => ?_)
      refine lv_aload_n hx hb dX5_back_48 rfl (lv_at hl 0 rfl) ?_
      refine mx_get (v := .ref (mad E (0))) (ci := 5) (C := RX5) (T := TX5) (N := 6) X Z hc.i (hc.c _) rfl inlX5 1 (by decide) wd_1_18 rfl dX5_back_49 ?_
      refine mx_get (v := .int (q_6 0 9)) (ci := 3) (C := RX3) (T := TX3) (N := 11) X Z hc.now.i (hc.now.c _) rfl inlX3 9 (by decide) wd_9_16 rfl dX5_back_52 ?_
      cases hT
      exact W.iret hx hb hr (fun t ht hW => mx_end Z t ht _) Z.2.2.2 dX5_back_55
    · replace hT := mx_t hT h_3
      refine lv_bipush (v := (-3 : Int32)) hx hb dX5_back_21 (by decide) ?_
      cases hT
      exact W.iret hx hb hr (fun t ht hW => mx_end Z t ht _) Z.2.2.2 dX5_back_23
  · replace hT := mx_t hT h_2
    refine lv_bipush (v := (-2 : Int32)) hx hb dX5_back_7 (by decide) ?_
    cases hT
    exact W.iret hx hb hr (fun t ht hW => mx_end Z t ht _) Z.2.2.2 dX5_back_9
/-! PeatRailway$State.weightIn -/
def x3_weightIn_L4 (y0 : Nat) (y1 : Int32) : Nat → Int32 → Int32 → mM → Option (Int32)
  | 0, _, _, _ => none
  | n + 1, w2, w3, G =>
    if ((4 : Int32)) ≤ w3 then
      some (w2)
    else
      (x3_trainAt y0 w3 G).bind fun q_2 =>
      mOpt q_2 (
        mNm (w3 + (1 : Int32)) fun v_5 =>
        x3_weightIn_L4 y0 y1 n w2 v_5 G) fun o_3 =>
        if (G o_3 3) = y1 then
          (x4_weight o_3 G).bind fun q_8 =>
          mNm (w2 + q_8) fun v_9 =>
          mNm (w3 + (1 : Int32)) fun v_10 =>
          x3_weightIn_L4 y0 y1 n v_9 v_10 G
        else
          mNm (w3 + (1 : Int32)) fun v_7 =>
          x3_weightIn_L4 y0 y1 n w2 v_7 G
def x3_weightIn (c : Nat) (x1 : Int32) (G : mM) : Option Int32 :=
  (x3_weightIn_L4 c x1 mFu ((0 : Int32)) ((0 : Int32)) G).bind fun q_11 =>
  some (q_11)
theorem hd3_weightIn : yX3_weightIn.cls = RX3 ∧ yX3_weightIn.cls ≠ "java/lang/invoke/MethodHandle" ∧ yX3_weightIn.cls ≠ "java/lang/invoke/VarHandle" ∧ (parseMethodDescriptor yX3_weightIn.desc).map (fun d => d.parameters.length) = some 1 := by decide +kernel
set_option maxHeartbeats 4000000 in
set_option maxRecDepth 100000 in
theorem k3_weightIn_4 {p : Program} {l : Launch} {e : Env} {R : Room} {s : State} {m : MethodId} {args : Array Value} {below : List Frame} {meth : Method} {cd : Code} {Q : State → Prop} {E : mE} (X : mX p s m args cd cX3_weightIn 5 RX3 E) (hR : 1 ≤ R.frames ∧ 21 ≤ R.locals) (hJ : mJ E) {y0 : Nat} (hy0 : mSt E y0) (y1 : Int32) : ∀ (n : Nat) (w2 : Int32) (w3 : Int32) (G : mM) (H : Heap) (locs : List Loc) (ls : Array Slot) (r : Int32), x3_weightIn_L4 y0 y1 n w2 w3 G = some r → mZ E s.heap H locs G → lv_has ls 5 [(0, .ref (mad E (y0))), (1, .int (y1)), (2, .int (w2)), (3, .int (w3))] → (∀ (H : Heap) (locs : List Loc) (ls : Array Slot), mZ E s.heap H locs G → lv_has ls 5 [(0, .ref (mad E (y0))), (1, .int (y1)), (2, .int (r))] → W p l e R s m args below meth cd H locs 0 0 Q (F0 m 44 ls [])) → W p l e R s m args below meth cd H locs 0 0 Q (F0 m 4 ls []) := by
  have hx := X.1
  have hb := X.2.1
  have hown := X.2.2.2.1
  have hts := X.2.2.2.2.1
  intro n
  induction n with
  | zero =>
    intro w2 w3 G H locs ls r hT
    rw [x3_weightIn_L4] at hT
    cases hT
  | succ n ih =>
    intro w2 w3 G H locs ls r hT Z hl k0
    rw [x3_weightIn_L4] at hT
    refine lv_iload_n hx hb dX3_weightIn_4 rfl (lv_at hl 3 rfl) ?_
    refine lv_iconst (v := (4 : Int32)) hx hb dX3_weightIn_5 (by decide) ?_
    refine lv_icmp_ge (tgt := 44) hx hb dX3_weightIn_6 (by decide) (fun h_1 => ?_) (fun h_1 => ?_)
    · replace hT := mx_t hT h_1
      cases hT
      exact k0 _ _ _ Z (lv_sub hl [0, 1, 2] rfl)
    · replace hT := mx_f hT h_1
      refine lv_aload_n hx hb dX3_weightIn_9 rfl (lv_at hl 0 rfl) ?_
      refine lv_iload_n hx hb dX3_weightIn_10 rfl (lv_at hl 3 rfl) ?_
      obtain ⟨q_2, h_q_2, hT⟩ := mx_bind hT
      refine mx_callV (As := [.int (w3)]) (rest := []) (st1 := [va_re (mad E) q_2]) (C := RX3) (T := TX3) (N := 11) (ci := 3) X Z hl.1 (c3_trainAt l E hJ hy0 _ _ _ h_q_2) wd_11_0 wd_11_1 wd_11_2 wd_1_16 wd_11_3 hd3_trainAt ⟨Nat.le_trans (by decide) hR.1, Nat.le_trans (by decide) hR.2⟩ ⟨Nat.zero_le _, Nat.zero_le _⟩ hy0.i (hy0.c _) rfl (Nat.le_of_ble_eq_true rfl) rfl rfl dX3_weightIn_11 (fun H locs Z => ?_)
      have hk_4 := c3_trainAt_k E hy0 _ _ _ h_q_2
      rcases q_2 with _ | o_3
      · replace hT := mx_on hT
        refine mx_tops (s2 := [.null]) rfl ?_
        refine lv_astoreN (lv' := [(4, .null), (0, .ref (mad E (y0))), (1, .int (y1)), (2, .int (w2)), (3, .int (w3))]) hx hb dX3_weightIn_14 hl (by decide) rfl (fun ls hl => ?_)
        refine lv_aloadN hx hb dX3_weightIn_16 (lv_at hl 0 rfl) ?_
        refine lv_ifnullN (tgt := 38) hx hb dX3_weightIn_18 (by decide) ?_
        obtain ⟨v_5, e_v_5, hT⟩ := mx_nm hT
        refine lv_iinc (v := v_5) (lv' := [(3, .int (v_5)), (4, .null), (0, .ref (mad E (y0))), (1, .int (y1)), (2, .int (w2))]) hx hb dX3_weightIn_38 hl (k := 4) rfl (by rw [← e_v_5]; rfl) (by decide) rfl (fun ls hl => ?_)
        refine lv_goto (tgt := 4) hx hb dX3_weightIn_41 (by decide) ?_
        exact ih _ _ _ _ _ _ _ hT Z (lv_sub hl [2, 3, 4, 0] rfl) k0
      · replace hT := mx_os hT
        refine mx_tops (s2 := [.ref (mad E o_3)]) rfl ?_
        refine lv_astore (lv' := [(4, .ref (mad E (o_3))), (0, .ref (mad E (y0))), (1, .int (y1)), (2, .int (w2)), (3, .int (w3))]) hx hb dX3_weightIn_14 hl (by decide) rfl (fun ls hl => ?_)
        refine lv_aload hx hb dX3_weightIn_16 (lv_at hl 0 rfl) ?_
        refine lv_ifnull hx hb dX3_weightIn_18 ?_
        refine lv_aload hx hb dX3_weightIn_21 (lv_at hl 0 rfl) ?_
        refine mx_get (v := .int (G o_3 3)) (ci := 4) (C := RX4) (T := TX4) (N := 10) X Z ((hk_4 o_3 rfl)).i (((hk_4 o_3 rfl)).c _) rfl inlX4 3 (by decide) wd_10_23 rfl dX3_weightIn_23 ?_
        refine lv_iload_n hx hb dX3_weightIn_26 rfl (lv_at hl 2 rfl) ?_
        refine lv_icmp_ne (tgt := 38) hx hb dX3_weightIn_27 (by decide) (fun h_6 => ?_) (fun h_6 => ?_)
        · replace hT := mx_f hT h_6
          obtain ⟨v_7, e_v_7, hT⟩ := mx_nm hT
          refine lv_iinc (v := v_7) (lv' := [(3, .int (v_7)), (4, .ref (mad E (o_3))), (0, .ref (mad E (y0))), (1, .int (y1)), (2, .int (w2))]) hx hb dX3_weightIn_38 hl (k := 4) rfl (by rw [← e_v_7]; rfl) (by decide) rfl (fun ls hl => ?_)
          refine lv_goto (tgt := 4) hx hb dX3_weightIn_41 (by decide) ?_
          exact ih _ _ _ _ _ _ _ hT Z (lv_sub hl [2, 3, 4, 0] rfl) k0
        · replace hT := mx_t hT h_6
          refine lv_iload_n hx hb dX3_weightIn_30 rfl (lv_at hl 3 rfl) ?_
          refine lv_aload hx hb dX3_weightIn_31 (lv_at hl 0 rfl) ?_
          obtain ⟨q_8, h_q_8, hT⟩ := mx_bind hT
          refine mx_callV (As := []) (rest := [.int (w2)]) (st1 := [.int (q_8), .int (w2)]) (C := RX4) (T := TX4) (N := 10) (ci := 4) X Z hl.1 (c4_weight l E hJ ((hk_4 o_3 rfl)) _ _ h_q_8) wd_11_8 wd_11_9 wd_11_10 wd_5_0 wd_11_11 hd4_weight ⟨Nat.le_trans (by decide) hR.1, Nat.le_trans (by decide) hR.2⟩ ⟨Nat.zero_le _, Nat.zero_le _⟩ ((hk_4 o_3 rfl)).i (((hk_4 o_3 rfl)).c _) rfl (Nat.le_of_ble_eq_true rfl) rfl rfl dX3_weightIn_33 (fun H locs Z => ?_)
          refine lv_iadd hx hb dX3_weightIn_36 ?_
          obtain ⟨v_9, e_v_9, hT⟩ := mx_nm hT
          refine mx_tops (congrArg (fun z => (.int (z) :: [] : List Value)) e_v_9) ?_
          refine lv_istore_n (lv' := [(2, .int (v_9)), (4, .ref (mad E (o_3))), (0, .ref (mad E (y0))), (1, .int (y1)), (3, .int (w3))]) hx hb dX3_weightIn_37 rfl hl (by decide) rfl (fun ls hl => ?_)
          obtain ⟨v_10, e_v_10, hT⟩ := mx_nm hT
          refine lv_iinc (v := v_10) (lv' := [(3, .int (v_10)), (2, .int (v_9)), (4, .ref (mad E (o_3))), (0, .ref (mad E (y0))), (1, .int (y1))]) hx hb dX3_weightIn_38 hl (k := 4) rfl (by rw [← e_v_10]; rfl) (by decide) rfl (fun ls hl => ?_)
          refine lv_goto (tgt := 4) hx hb dX3_weightIn_41 (by decide) ?_
          exact ih _ _ _ _ _ _ _ hT Z (lv_sub hl [3, 4, 1, 0] rfl) k0
set_option maxHeartbeats 4000000 in
set_option maxRecDepth 100000 in
theorem c3_weightIn (l : Launch) (E : mE) (hJ : mJ E) {c : Nat} (hc : mSt E c) (x1 : Int32) (G : mM) (q : Int32) (hT : x3_weightIn c x1 G = some q) : mMet l E yX3_weightIn cX3_weightIn 5 (some .int) 1 21 [.ref (mad E (c)), .int (x1)] G (some (.int q)) G := by
  refine Met.ofW (cc := cX3_weightIn) (maxL := 5) (ret := (some .int)) (by decide) rfl ?_
  intro p e s m args below meth cd s₁ B hml hv
  obtain ⟨rfl, hP, hK, hS⟩ := hv
  have X := mx_entry (own := RX3) B hml hK hJ hS rfl
  have hx := X.1
  have hb := X.2.1
  have hown := X.2.2.2.1
  have hts := X.2.2.2.2.1
  have hr := B.returns
  have hlocks := B.notSynchronized
  have hR : 1 ≤ (headSpec (mWs yX3_weightIn cX3_weightIn 5 (some .int)) ({ frames := 1, cells := 0, slots := 0, locals := 21 })).room.frames ∧ 21 ≤ (headSpec (mWs yX3_weightIn cX3_weightIn 5 (some .int)) ({ frames := 1, cells := 0, slots := 0, locals := 21 })).room.locals := ⟨Nat.le_refl _, Nat.le_refl _⟩
  have Z : mZ E s.heap s.heap [] G := ⟨hP, va_S.rf⟩
  have hl := lv_entry ([.ref (mad E (c)), .int (x1)]) (n := 5) (Nat.le_of_ble_eq_true rfl)
  rw [lg_entry_eq]
  generalize (lg_sl ([.ref (mad E (c)), .int (x1)]) ++ List.replicate (5 - (lg_sl ([.ref (mad E (c)), .int (x1)])).length) Slot.unset).toArray = ls at hl ⊢
  have hl : lv_has ls 5 [(0, .ref (mad E (c))), (1, .int (x1))] := hl
  unfold x3_weightIn at hT
  refine lv_iconst (v := (0 : Int32)) hx hb dX3_weightIn_0 (by decide) ?_
  refine lv_istore_n (lv' := [(2, .int ((0 : Int32))), (0, .ref (mad E (c))), (1, .int (x1))]) hx hb dX3_weightIn_1 rfl hl (by decide) rfl (fun ls hl => ?_)
  refine lv_iconst (v := (0 : Int32)) hx hb dX3_weightIn_2 (by decide) ?_
  refine lv_istore_n (lv' := [(3, .int ((0 : Int32))), (2, .int ((0 : Int32))), (0, .ref (mad E (c))), (1, .int (x1))]) hx hb dX3_weightIn_3 rfl hl (by decide) rfl (fun ls hl => ?_)
  obtain ⟨q_11, h_q_11, hT⟩ := mx_bind hT
  refine k3_weightIn_4 X hR hJ hc _ _ _ _ _ _ _ _ _ h_q_11 Z (lv_sub (l' := [(0, .ref (mad E (c))), (1, .int (x1)), (2, .int ((0 : Int32))), (3, .int ((0 : Int32)))]) hl [2, 3, 1, 0] rfl) (fun H locs ls Z hl => ?_)
  · refine lv_iload_n hx hb dX3_weightIn_44 rfl (lv_at hl 2 rfl) ?_
    cases hT
    exact W.iret hx hb hr (fun t ht hW => mx_end Z t ht _) Z.2.2.2 dX3_weightIn_45
/-! PeatRailway$Segment.ticksToRise -/
def x2_ticksToRise (c : Nat) (x1 : Int32) (x2 : Int32) (G : mM) : Option Int32 :=
  if (G c 2) ≤ x1 then
    some ((0 : Int32))
  else
    if ((1 : Int32)) ≤ x2 then
      mCk (¬ x2 = 0) <|
      some (((((G c 2) - x1) + x2) - ((1 : Int32))) / x2)
    else
      some ((0 : Int32))
theorem hd2_ticksToRise : yX2_ticksToRise.cls = RX2 ∧ yX2_ticksToRise.cls ≠ "java/lang/invoke/MethodHandle" ∧ yX2_ticksToRise.cls ≠ "java/lang/invoke/VarHandle" ∧ (parseMethodDescriptor yX2_ticksToRise.desc).map (fun d => d.parameters.length) = some 2 := by decide +kernel
set_option maxHeartbeats 4000000 in
set_option maxRecDepth 100000 in
theorem c2_ticksToRise (l : Launch) (E : mE) (hJ : mJ E) {c : Nat} (hc : mSg E c) (x1 : Int32) (x2 : Int32) (G : mM) (q : Int32) (hT : x2_ticksToRise c x1 x2 G = some q) : mMet l E yX2_ticksToRise cX2_ticksToRise 3 (some .int) 0 0 [.ref (mad E (c)), .int (x1), .int (x2)] G (some (.int q)) G := by
  refine Met.ofW (cc := cX2_ticksToRise) (maxL := 3) (ret := (some .int)) (by decide) rfl ?_
  intro p e s m args below meth cd s₁ B hml hv
  obtain ⟨rfl, hP, hK, hS⟩ := hv
  have X := mx_entry (own := RX2) B hml hK hJ hS rfl
  have hx := X.1
  have hb := X.2.1
  have hown := X.2.2.2.1
  have hts := X.2.2.2.2.1
  have hr := B.returns
  have hlocks := B.notSynchronized
  have hR : 0 ≤ (headSpec (mWs yX2_ticksToRise cX2_ticksToRise 3 (some .int)) ({ frames := 0, cells := 0, slots := 0, locals := 0 })).room.frames ∧ 0 ≤ (headSpec (mWs yX2_ticksToRise cX2_ticksToRise 3 (some .int)) ({ frames := 0, cells := 0, slots := 0, locals := 0 })).room.locals := ⟨Nat.le_refl _, Nat.le_refl _⟩
  have Z : mZ E s.heap s.heap [] G := ⟨hP, va_S.rf⟩
  have hl := lv_entry ([.ref (mad E (c)), .int (x1), .int (x2)]) (n := 3) (Nat.le_of_ble_eq_true rfl)
  rw [lg_entry_eq]
  generalize (lg_sl ([.ref (mad E (c)), .int (x1), .int (x2)]) ++ List.replicate (3 - (lg_sl ([.ref (mad E (c)), .int (x1), .int (x2)])).length) Slot.unset).toArray = ls at hl ⊢
  have hl : lv_has ls 3 [(0, .ref (mad E (c))), (1, .int (x1)), (2, .int (x2))] := hl
  unfold x2_ticksToRise at hT
  refine lv_aload_n hx hb dX2_ticksToRise_0 rfl (lv_at hl 0 rfl) ?_
  refine mx_get (v := .int (G c 2)) (ci := 2) (C := RX2) (T := TX2) (N := 6) X Z hc.i (hc.c _) rfl inlX2 2 (by decide) wd_6_14 rfl dX2_ticksToRise_1 ?_
  refine lv_iload_n hx hb dX2_ticksToRise_4 rfl (lv_at hl 1 rfl) ?_
  refine lv_icmp_le (tgt := 13) hx hb dX2_ticksToRise_5 (by decide) (fun h_1 => ?_) (fun h_1 => ?_)
  · replace hT := mx_t hT h_1
    refine lv_iconst (v := (0 : Int32)) hx hb dX2_ticksToRise_13 (by decide) ?_
    cases hT
    exact W.iret hx hb hr (fun t ht hW => mx_end Z t ht _) Z.2.2.2 dX2_ticksToRise_14
  · replace hT := mx_f hT h_1
    refine lv_iload_n hx hb dX2_ticksToRise_8 rfl (lv_at hl 2 rfl) ?_
    refine lv_iconst (v := (1 : Int32)) hx hb dX2_ticksToRise_9 (by decide) ?_
    refine lv_icmp_ge (tgt := 15) hx hb dX2_ticksToRise_10 (by decide) (fun h_2 => ?_) (fun h_2 => ?_)
    · replace hT := mx_t hT h_2
      refine lv_aload_n hx hb dX2_ticksToRise_15 rfl (lv_at hl 0 rfl) ?_
      refine mx_get (v := .int (G c 2)) (ci := 2) (C := RX2) (T := TX2) (N := 6) X Z hc.i (hc.c _) rfl inlX2 2 (by decide) wd_6_14 rfl dX2_ticksToRise_16 ?_
      refine lv_iload_n hx hb dX2_ticksToRise_19 rfl (lv_at hl 1 rfl) ?_
      refine lv_isub hx hb dX2_ticksToRise_20 ?_
      refine lv_iload_n hx hb dX2_ticksToRise_21 rfl (lv_at hl 2 rfl) ?_
      refine lv_iadd hx hb dX2_ticksToRise_22 ?_
      refine lv_iconst (v := (1 : Int32)) hx hb dX2_ticksToRise_23 (by decide) ?_
      refine lv_isub hx hb dX2_ticksToRise_24 ?_
      refine lv_iload_n hx hb dX2_ticksToRise_25 rfl (lv_at hl 2 rfl) ?_
      obtain ⟨h_3, hT⟩ := mx_chk hT
      refine lv_idiv hx hb dX2_ticksToRise_26 h_3 ?_
      cases hT
      exact W.iret hx hb hr (fun t ht hW => mx_end Z t ht _) Z.2.2.2 dX2_ticksToRise_27
    · replace hT := mx_f hT h_2
      refine lv_iconst (v := (0 : Int32)) hx hb dX2_ticksToRise_13 (by decide) ?_
      cases hT
      exact W.iret hx hb hr (fun t ht hW => mx_end Z t ht _) Z.2.2.2 dX2_ticksToRise_14
/-! PeatRailway.segment -/
def x5_segment (x1 : Int32) (x2 : Int32) (G : mM) : Option Int32 :=
  (x3_segmentAt 0 x1 G).bind fun q_1 =>
  mOpt q_1 (
    some ((-2 : Int32))) fun o_2 =>
    if x2 = 0 then
      some (G o_2 0)
    else
      if x2 = 1 then
        (x2_isPassingPlace o_2 G).bind fun q_6 =>
        if q_6 = 0 then
          some ((0 : Int32))
        else
          some ((1 : Int32))
      else
        if x2 = 2 then
          some (G o_2 2)
        else
          if x2 = 3 then
            (x3_trainsIn 0 x1 G).bind fun q_10 =>
            some (q_10)
          else
            if x2 = 4 then
              (x3_weightIn 0 x1 G).bind fun q_12 =>
              some (q_12)
            else
              if x2 = 5 then
                (x3_trainsIn 0 x1 G).bind fun q_14 =>
                some ((G o_2 1) - q_14)
              else
                if x2 = 6 then
                  (x2_ticksToRise o_2 (G ((0 + 3)) 0) (G ((0 + 3)) 1) G).bind fun q_16 =>
                  some (q_16)
                else
                  some ((-2 : Int32))
theorem hd5_segment : yX5_segment.cls = RX5 ∧ yX5_segment.cls ≠ "java/lang/invoke/MethodHandle" ∧ yX5_segment.cls ≠ "java/lang/invoke/VarHandle" ∧ (parseMethodDescriptor yX5_segment.desc).map (fun d => d.parameters.length) = some 2 := by decide +kernel
set_option maxHeartbeats 4000000 in
set_option maxRecDepth 100000 in
theorem c5_segment (l : Launch) (E : mE) (hJ : mJ E) (hc : mAl E 240) (x1 : Int32) (x2 : Int32) (G : mM) (q : Int32) (hT : x5_segment x1 x2 G = some q) : mMet l E yX5_segment cX5_segment 4 (some .int) 2 45 [.ref (mad E (240)), .int (x1), .int (x2)] G (some (.int q)) G := by
  refine Met.ofW (cc := cX5_segment) (maxL := 4) (ret := (some .int)) (by decide) rfl ?_
  intro p e s m args below meth cd s₁ B hml hv
  obtain ⟨rfl, hP, hK, hS⟩ := hv
  have X := mx_entry (own := RX5) B hml hK hJ hS rfl
  have hx := X.1
  have hb := X.2.1
  have hown := X.2.2.2.1
  have hts := X.2.2.2.2.1
  have hr := B.returns
  have hlocks := B.notSynchronized
  have hR : 2 ≤ (headSpec (mWs yX5_segment cX5_segment 4 (some .int)) ({ frames := 2, cells := 0, slots := 0, locals := 45 })).room.frames ∧ 45 ≤ (headSpec (mWs yX5_segment cX5_segment 4 (some .int)) ({ frames := 2, cells := 0, slots := 0, locals := 45 })).room.locals := ⟨Nat.le_refl _, Nat.le_refl _⟩
  have Z : mZ E s.heap s.heap [] G := ⟨hP, va_S.rf⟩
  have hl := lv_entry ([.ref (mad E (240)), .int (x1), .int (x2)]) (n := 4) (Nat.le_of_ble_eq_true rfl)
  rw [lg_entry_eq]
  generalize (lg_sl ([.ref (mad E (240)), .int (x1), .int (x2)]) ++ List.replicate (4 - (lg_sl ([.ref (mad E (240)), .int (x1), .int (x2)])).length) Slot.unset).toArray = ls at hl ⊢
  have hl : lv_has ls 4 [(0, .ref (mad E (240))), (1, .int (x1)), (2, .int (x2))] := hl
  unfold x5_segment at hT
  refine lv_aload_n hx hb dX5_segment_0 rfl (lv_at hl 0 rfl) ?_
  refine mx_get (v := .ref (mad E (0))) (ci := 5) (C := RX5) (T := TX5) (N := 6) X Z hc.i (hc.c _) rfl inlX5 1 (by decide) wd_1_18 rfl dX5_segment_1 ?_
  refine lv_iload_n hx hb dX5_segment_4 rfl (lv_at hl 1 rfl) ?_
  obtain ⟨q_1, h_q_1, hT⟩ := mx_bind hT
  refine mx_callV (As := [.int (x1)]) (rest := []) (st1 := [va_re (mad E) q_1]) (C := RX3) (T := TX3) (N := 11) (ci := 3) X Z hl.1 (c3_segmentAt l E hJ hc.now _ _ _ h_q_1) wd_10_17 wd_6_5 wd_6_6 wd_1_16 wd_6_7 hd3_segmentAt ⟨Nat.le_trans (by decide) hR.1, Nat.le_trans (by decide) hR.2⟩ ⟨Nat.zero_le _, Nat.zero_le _⟩ hc.now.i (hc.now.c _) rfl (Nat.le_of_ble_eq_true rfl) rfl rfl dX5_segment_5 (fun H locs Z => ?_)
  have hk_3 := c3_segmentAt_k E hc.now _ _ _ h_q_1
  rcases q_1 with _ | o_2
  · replace hT := mx_on hT
    refine mx_tops (s2 := [.null]) rfl ?_
    refine lv_astore_nN (lv' := [(3, .null), (0, .ref (mad E (240))), (1, .int (x1)), (2, .int (x2))]) hx hb dX5_segment_8 rfl hl (by decide) rfl (fun ls hl => ?_)
    refine lv_aload_nN hx hb dX5_segment_9 rfl (lv_at hl 0 rfl) ?_
    refine lv_ifnonnullN hx hb dX5_segment_10 ?_
    refine lv_bipush (v := (-2 : Int32)) hx hb dX5_segment_13 (by decide) ?_
    cases hT
    exact W.iret hx hb hr (fun t ht hW => mx_end Z t ht _) Z.2.2.2 dX5_segment_15
  · replace hT := mx_os hT
    refine mx_tops (s2 := [.ref (mad E o_2)]) rfl ?_
    refine lv_astore_n (lv' := [(3, .ref (mad E (o_2))), (0, .ref (mad E (240))), (1, .int (x1)), (2, .int (x2))]) hx hb dX5_segment_8 rfl hl (by decide) rfl (fun ls hl => ?_)
    refine lv_aload_n hx hb dX5_segment_9 rfl (lv_at hl 0 rfl) ?_
    refine lv_ifnonnull (tgt := 16) hx hb dX5_segment_10 (by decide) ?_
    refine lv_iload_n hx hb dX5_segment_16 rfl (lv_at hl 3 rfl) ?_
    by_cases h_4 : x2 = 0
    · replace hT := mx_t hT h_4
      refine lv_tableIn (tgt := 60) hx hb dX5_segment_17 (by rw [h_4]; decide) (by rw [h_4]; decide) (by rw [h_4]; rfl) (by decide) ?_
      refine lv_aload_n hx hb dX5_segment_60 rfl (lv_at hl 0 rfl) ?_
      refine mx_get (v := .int (G o_2 0)) (ci := 2) (C := RX2) (T := TX2) (N := 6) X Z ((hk_3 o_2 rfl)).i (((hk_3 o_2 rfl)).c _) rfl inlX2 0 (by decide) wd_10_13 rfl dX5_segment_61 ?_
      cases hT
      exact W.iret hx hb hr (fun t ht hW => mx_end Z t ht _) Z.2.2.2 dX5_segment_64
    · replace hT := mx_f hT h_4
      by_cases h_5 : x2 = 1
      · replace hT := mx_t hT h_5
        refine lv_tableIn (tgt := 65) hx hb dX5_segment_17 (by rw [h_5]; decide) (by rw [h_5]; decide) (by rw [h_5]; rfl) (by decide) ?_
        refine lv_aload_n hx hb dX5_segment_65 rfl (lv_at hl 0 rfl) ?_
        obtain ⟨q_6, h_q_6, hT⟩ := mx_bind hT
        refine mx_callV (As := []) (rest := []) (st1 := [.int (q_6)]) (C := RX2) (T := TX2) (N := 6) (ci := 2) X Z hl.1 (c2_isPassingPlace l E hJ ((hk_3 o_2 rfl)) _ _ h_q_6) wd_10_18 wd_7_3 wd_7_4 wd_4_20 wd_7_5 hd2_isPassingPlace ⟨Nat.le_trans (by decide) hR.1, Nat.le_trans (by decide) hR.2⟩ ⟨Nat.zero_le _, Nat.zero_le _⟩ ((hk_3 o_2 rfl)).i (((hk_3 o_2 rfl)).c _) rfl (Nat.le_of_ble_eq_true rfl) rfl rfl dX5_segment_66 (fun H locs Z => ?_)
        refine lv_if_eq (tgt := 76) hx hb dX5_segment_69 (by decide) (fun h_7 => ?_) (fun h_7 => ?_)
        · replace hT := mx_t hT h_7
          refine lv_iconst (v := (0 : Int32)) hx hb dX5_segment_76 (by decide) ?_
          cases hT
          exact W.iret hx hb hr (fun t ht hW => mx_end Z t ht _) Z.2.2.2 dX5_segment_77
        · replace hT := mx_f hT h_7
          refine lv_iconst (v := (1 : Int32)) hx hb dX5_segment_72 (by decide) ?_
          refine lv_goto (tgt := 77) hx hb dX5_segment_73 (by decide) ?_
          cases hT
          exact W.iret hx hb hr (fun t ht hW => mx_end Z t ht _) Z.2.2.2 dX5_segment_77
      · replace hT := mx_f hT h_5
        by_cases h_8 : x2 = 2
        · replace hT := mx_t hT h_8
          refine lv_tableIn (tgt := 78) hx hb dX5_segment_17 (by rw [h_8]; decide) (by rw [h_8]; decide) (by rw [h_8]; rfl) (by decide) ?_
          refine lv_aload_n hx hb dX5_segment_78 rfl (lv_at hl 0 rfl) ?_
          refine mx_get (v := .int (G o_2 2)) (ci := 2) (C := RX2) (T := TX2) (N := 6) X Z ((hk_3 o_2 rfl)).i (((hk_3 o_2 rfl)).c _) rfl inlX2 2 (by decide) wd_10_14 rfl dX5_segment_79 ?_
          cases hT
          exact W.iret hx hb hr (fun t ht hW => mx_end Z t ht _) Z.2.2.2 dX5_segment_82
        · replace hT := mx_f hT h_8
          by_cases h_9 : x2 = 3
          · replace hT := mx_t hT h_9
            refine lv_tableIn (tgt := 83) hx hb dX5_segment_17 (by rw [h_9]; decide) (by rw [h_9]; decide) (by rw [h_9]; rfl) (by decide) ?_
            refine lv_aload_n hx hb dX5_segment_83 rfl (lv_at hl 1 rfl) ?_
            refine mx_get (v := .ref (mad E (0))) (ci := 5) (C := RX5) (T := TX5) (N := 6) X Z hc.i (hc.c _) rfl inlX5 1 (by decide) wd_1_18 rfl dX5_segment_84 ?_
            refine lv_iload_n hx hb dX5_segment_87 rfl (lv_at hl 2 rfl) ?_
            obtain ⟨q_10, h_q_10, hT⟩ := mx_bind hT
            refine mx_callV (As := [.int (x1)]) (rest := []) (st1 := [.int (q_10)]) (C := RX3) (T := TX3) (N := 11) (ci := 3) X Z hl.1 (c3_trainsIn l E hJ hc.now _ _ _ h_q_10) wd_10_19 wd_10_20 wd_10_21 wd_1_16 wd_10_22 hd3_trainsIn ⟨Nat.le_trans (by decide) hR.1, Nat.le_trans (by decide) hR.2⟩ ⟨Nat.zero_le _, Nat.zero_le _⟩ hc.now.i (hc.now.c _) rfl (Nat.le_of_ble_eq_true rfl) rfl rfl dX5_segment_88 (fun H locs Z => ?_)
            cases hT
            exact W.iret hx hb hr (fun t ht hW => mx_end Z t ht _) Z.2.2.2 dX5_segment_91
          · replace hT := mx_f hT h_9
            by_cases h_11 : x2 = 4
            · replace hT := mx_t hT h_11
              refine lv_tableIn (tgt := 92) hx hb dX5_segment_17 (by rw [h_11]; decide) (by rw [h_11]; decide) (by rw [h_11]; rfl) (by decide) ?_
              refine lv_aload_n hx hb dX5_segment_92 rfl (lv_at hl 1 rfl) ?_
              refine mx_get (v := .ref (mad E (0))) (ci := 5) (C := RX5) (T := TX5) (N := 6) X Z hc.i (hc.c _) rfl inlX5 1 (by decide) wd_1_18 rfl dX5_segment_93 ?_
              refine lv_iload_n hx hb dX5_segment_96 rfl (lv_at hl 2 rfl) ?_
              obtain ⟨q_12, h_q_12, hT⟩ := mx_bind hT
              refine mx_callV (As := [.int (x1)]) (rest := []) (st1 := [.int (q_12)]) (C := RX3) (T := TX3) (N := 11) (ci := 3) X Z hl.1 (c3_weightIn l E hJ hc.now _ _ _ h_q_12) wd_11_4 wd_11_5 wd_11_6 wd_1_16 wd_11_7 hd3_weightIn ⟨Nat.le_trans (by decide) hR.1, Nat.le_trans (by decide) hR.2⟩ ⟨Nat.zero_le _, Nat.zero_le _⟩ hc.now.i (hc.now.c _) rfl (Nat.le_of_ble_eq_true rfl) rfl rfl dX5_segment_97 (fun H locs Z => ?_)
              cases hT
              exact W.iret hx hb hr (fun t ht hW => mx_end Z t ht _) Z.2.2.2 dX5_segment_100
            · replace hT := mx_f hT h_11
              by_cases h_13 : x2 = 5
              · replace hT := mx_t hT h_13
                refine lv_tableIn (tgt := 101) hx hb dX5_segment_17 (by rw [h_13]; decide) (by rw [h_13]; decide) (by rw [h_13]; rfl) (by decide) ?_
                refine lv_aload_n hx hb dX5_segment_101 rfl (lv_at hl 0 rfl) ?_
                refine mx_get (v := .int (G o_2 1)) (ci := 2) (C := RX2) (T := TX2) (N := 6) X Z ((hk_3 o_2 rfl)).i (((hk_3 o_2 rfl)).c _) rfl inlX2 1 (by decide) wd_10_15 rfl dX5_segment_102 ?_
                refine lv_aload_n hx hb dX5_segment_105 rfl (lv_at hl 1 rfl) ?_
                refine mx_get (v := .ref (mad E (0))) (ci := 5) (C := RX5) (T := TX5) (N := 6) X Z hc.i (hc.c _) rfl inlX5 1 (by decide) wd_1_18 rfl dX5_segment_106 ?_
                refine lv_iload_n hx hb dX5_segment_109 rfl (lv_at hl 2 rfl) ?_
                obtain ⟨q_14, h_q_14, hT⟩ := mx_bind hT
                refine mx_callV (As := [.int (x1)]) (rest := [.int (G o_2 1)]) (st1 := [.int (q_14), .int (G o_2 1)]) (C := RX3) (T := TX3) (N := 11) (ci := 3) X Z hl.1 (c3_trainsIn l E hJ hc.now _ _ _ h_q_14) wd_10_19 wd_10_20 wd_10_21 wd_1_16 wd_10_22 hd3_trainsIn ⟨Nat.le_trans (by decide) hR.1, Nat.le_trans (by decide) hR.2⟩ ⟨Nat.zero_le _, Nat.zero_le _⟩ hc.now.i (hc.now.c _) rfl (Nat.le_of_ble_eq_true rfl) rfl rfl dX5_segment_110 (fun H locs Z => ?_)
                refine lv_isub hx hb dX5_segment_113 ?_
                cases hT
                exact W.iret hx hb hr (fun t ht hW => mx_end Z t ht _) Z.2.2.2 dX5_segment_114
              · replace hT := mx_f hT h_13
                by_cases h_15 : x2 = 6
                · replace hT := mx_t hT h_15
                  refine lv_tableIn (tgt := 115) hx hb dX5_segment_17 (by rw [h_15]; decide) (by rw [h_15]; decide) (by rw [h_15]; rfl) (by decide) ?_
                  refine lv_aload_n hx hb dX5_segment_115 rfl (lv_at hl 0 rfl) ?_
                  refine lv_aload_n hx hb dX5_segment_116 rfl (lv_at hl 1 rfl) ?_
                  refine mx_get (v := .ref (mad E (0))) (ci := 5) (C := RX5) (T := TX5) (N := 6) X Z hc.i (hc.c _) rfl inlX5 1 (by decide) wd_1_18 rfl dX5_segment_117 ?_
                  refine mx_get (v := .ref (mad E ((0 + 3)))) (ci := 3) (C := RX3) (T := TX3) (N := 11) X Z hc.now.i (hc.now.c _) rfl inlX3 2 (by decide) wd_10_16 rfl dX5_segment_120 ?_
                  refine lv_iconst (v := (0 : Int32)) hx hb dX5_segment_123 (by decide) ?_
                  refine mx_iald X Z hc.now.sets (mx_lit (by decide)) dX5_segment_124 ?_
                  refine mx_tops (s2 := [.int (G ((0 + 3)) 0), .ref (mad E (o_2))]) rfl ?_
                  refine lv_aload_n hx hb dX5_segment_125 rfl (lv_at hl 1 rfl) ?_
                  refine mx_get (v := .ref (mad E (0))) (ci := 5) (C := RX5) (T := TX5) (N := 6) X Z hc.i (hc.c _) rfl inlX5 1 (by decide) wd_1_18 rfl dX5_segment_126 ?_
                  refine mx_get (v := .ref (mad E ((0 + 3)))) (ci := 3) (C := RX3) (T := TX3) (N := 11) X Z hc.now.i (hc.now.c _) rfl inlX3 2 (by decide) wd_10_16 rfl dX5_segment_129 ?_
                  refine lv_iconst (v := (1 : Int32)) hx hb dX5_segment_132 (by decide) ?_
                  refine mx_iald X Z hc.now.sets (mx_lit (by decide)) dX5_segment_133 ?_
                  refine mx_tops (s2 := [.int (G ((0 + 3)) 1), .int (G ((0 + 3)) 0), .ref (mad E (o_2))]) rfl ?_
                  obtain ⟨q_16, h_q_16, hT⟩ := mx_bind hT
                  refine mx_callV (As := [.int (G ((0 + 3)) 0), .int (G ((0 + 3)) 1)]) (rest := []) (st1 := [.int (q_16)]) (C := RX2) (T := TX2) (N := 6) (ci := 2) X Z hl.1 (c2_ticksToRise l E hJ ((hk_3 o_2 rfl)) _ _ _ _ h_q_16) wd_11_12 wd_11_13 wd_11_14 wd_4_20 wd_11_15 hd2_ticksToRise ⟨Nat.le_trans (by decide) hR.1, Nat.le_trans (by decide) hR.2⟩ ⟨Nat.zero_le _, Nat.zero_le _⟩ ((hk_3 o_2 rfl)).i (((hk_3 o_2 rfl)).c _) rfl (Nat.le_of_ble_eq_true rfl) rfl rfl dX5_segment_134 (fun H locs Z => ?_)
                  cases hT
                  exact W.iret hx hb hr (fun t ht hW => mx_end Z t ht _) Z.2.2.2 dX5_segment_137
                · replace hT := mx_f hT h_15
                  refine lv_tableOut (tgt := 138) hx hb dX5_segment_17 (mx_out (n := 6) (by decide) (fun k hk => by rcases (show k = 0 ∨ k = 1 ∨ k = 2 ∨ k = 3 ∨ k = 4 ∨ k = 5 ∨ k = 6 by omega) with rfl | rfl | rfl | rfl | rfl | rfl | rfl <;> assumption)) (by decide) ?_
                  refine lv_bipush (v := (-2 : Int32)) hx hb dX5_segment_138 (by decide) ?_
                  cases hT
                  exact W.iret hx hb hr (fun t ht hW => mx_end Z t ht _) Z.2.2.2 dX5_segment_140
/-! PeatRailway.train -/
def x5_train (x1 : Int32) (x2 : Int32) (G : mM) : Option Int32 :=
  (x3_trainAt 0 x1 G).bind fun q_1 =>
  mOpt q_1 (
    some ((-2 : Int32))) fun o_2 =>
    if x2 = 0 then
      some (G o_2 0)
    else
      if x2 = 1 then
        some (G o_2 1)
      else
        if x2 = 2 then
          some (G o_2 2)
        else
          if x2 = 3 then
            some (G o_2 3)
          else
            if x2 = 4 then
              if (G o_2 4) = 0 then
                some ((0 : Int32))
              else
                some ((1 : Int32))
            else
              if x2 = 5 then
                some (G o_2 5)
              else
                if x2 = 6 then
                  some (G o_2 6)
                else
                  if x2 = 7 then
                    some (G o_2 7)
                  else
                    if x2 = 8 then
                      some (G o_2 8)
                    else
                      if x2 = 9 then
                        (x4_weight o_2 G).bind fun q_15 =>
                        some (q_15)
                      else
                        some ((-2 : Int32))
theorem hd5_train : yX5_train.cls = RX5 ∧ yX5_train.cls ≠ "java/lang/invoke/MethodHandle" ∧ yX5_train.cls ≠ "java/lang/invoke/VarHandle" ∧ (parseMethodDescriptor yX5_train.desc).map (fun d => d.parameters.length) = some 2 := by decide +kernel
set_option maxHeartbeats 4000000 in
set_option maxRecDepth 100000 in
theorem c5_train (l : Launch) (E : mE) (hJ : mJ E) (hc : mAl E 240) (x1 : Int32) (x2 : Int32) (G : mM) (q : Int32) (hT : x5_train x1 x2 G = some q) : mMet l E yX5_train cX5_train 4 (some .int) 1 21 [.ref (mad E (240)), .int (x1), .int (x2)] G (some (.int q)) G := by
  refine Met.ofW (cc := cX5_train) (maxL := 4) (ret := (some .int)) (by decide) rfl ?_
  intro p e s m args below meth cd s₁ B hml hv
  obtain ⟨rfl, hP, hK, hS⟩ := hv
  have X := mx_entry (own := RX5) B hml hK hJ hS rfl
  have hx := X.1
  have hb := X.2.1
  have hown := X.2.2.2.1
  have hts := X.2.2.2.2.1
  have hr := B.returns
  have hlocks := B.notSynchronized
  have hR : 1 ≤ (headSpec (mWs yX5_train cX5_train 4 (some .int)) ({ frames := 1, cells := 0, slots := 0, locals := 21 })).room.frames ∧ 21 ≤ (headSpec (mWs yX5_train cX5_train 4 (some .int)) ({ frames := 1, cells := 0, slots := 0, locals := 21 })).room.locals := ⟨Nat.le_refl _, Nat.le_refl _⟩
  have Z : mZ E s.heap s.heap [] G := ⟨hP, va_S.rf⟩
  have hl := lv_entry ([.ref (mad E (240)), .int (x1), .int (x2)]) (n := 4) (Nat.le_of_ble_eq_true rfl)
  rw [lg_entry_eq]
  generalize (lg_sl ([.ref (mad E (240)), .int (x1), .int (x2)]) ++ List.replicate (4 - (lg_sl ([.ref (mad E (240)), .int (x1), .int (x2)])).length) Slot.unset).toArray = ls at hl ⊢
  have hl : lv_has ls 4 [(0, .ref (mad E (240))), (1, .int (x1)), (2, .int (x2))] := hl
  unfold x5_train at hT
  refine lv_aload_n hx hb dX5_train_0 rfl (lv_at hl 0 rfl) ?_
  refine mx_get (v := .ref (mad E (0))) (ci := 5) (C := RX5) (T := TX5) (N := 6) X Z hc.i (hc.c _) rfl inlX5 1 (by decide) wd_1_18 rfl dX5_train_1 ?_
  refine lv_iload_n hx hb dX5_train_4 rfl (lv_at hl 1 rfl) ?_
  obtain ⟨q_1, h_q_1, hT⟩ := mx_bind hT
  refine mx_callV (As := [.int (x1)]) (rest := []) (st1 := [va_re (mad E) q_1]) (C := RX3) (T := TX3) (N := 11) (ci := 3) X Z hl.1 (c3_trainAt l E hJ hc.now _ _ _ h_q_1) wd_12_20 wd_11_1 wd_11_2 wd_1_16 wd_11_3 hd3_trainAt ⟨Nat.le_trans (by decide) hR.1, Nat.le_trans (by decide) hR.2⟩ ⟨Nat.zero_le _, Nat.zero_le _⟩ hc.now.i (hc.now.c _) rfl (Nat.le_of_ble_eq_true rfl) rfl rfl dX5_train_5 (fun H locs Z => ?_)
  have hk_3 := c3_trainAt_k E hc.now _ _ _ h_q_1
  rcases q_1 with _ | o_2
  · replace hT := mx_on hT
    refine mx_tops (s2 := [.null]) rfl ?_
    refine lv_astore_nN (lv' := [(3, .null), (0, .ref (mad E (240))), (1, .int (x1)), (2, .int (x2))]) hx hb dX5_train_8 rfl hl (by decide) rfl (fun ls hl => ?_)
    refine lv_aload_nN hx hb dX5_train_9 rfl (lv_at hl 0 rfl) ?_
    refine lv_ifnonnullN hx hb dX5_train_10 ?_
    refine lv_bipush (v := (-2 : Int32)) hx hb dX5_train_13 (by decide) ?_
    cases hT
    exact W.iret hx hb hr (fun t ht hW => mx_end Z t ht _) Z.2.2.2 dX5_train_15
  · replace hT := mx_os hT
    refine mx_tops (s2 := [.ref (mad E o_2)]) rfl ?_
    refine lv_astore_n (lv' := [(3, .ref (mad E (o_2))), (0, .ref (mad E (240))), (1, .int (x1)), (2, .int (x2))]) hx hb dX5_train_8 rfl hl (by decide) rfl (fun ls hl => ?_)
    refine lv_aload_n hx hb dX5_train_9 rfl (lv_at hl 0 rfl) ?_
    refine lv_ifnonnull (tgt := 16) hx hb dX5_train_10 (by decide) ?_
    refine lv_iload_n hx hb dX5_train_16 rfl (lv_at hl 3 rfl) ?_
    by_cases h_4 : x2 = 0
    · replace hT := mx_t hT h_4
      refine lv_tableIn (tgt := 72) hx hb dX5_train_17 (by rw [h_4]; decide) (by rw [h_4]; decide) (by rw [h_4]; rfl) (by decide) ?_
      refine lv_aload_n hx hb dX5_train_72 rfl (lv_at hl 0 rfl) ?_
      refine mx_get (v := .int (G o_2 0)) (ci := 4) (C := RX4) (T := TX4) (N := 10) X Z ((hk_3 o_2 rfl)).i (((hk_3 o_2 rfl)).c _) rfl inlX4 0 (by decide) wd_12_11 rfl dX5_train_73 ?_
      cases hT
      exact W.iret hx hb hr (fun t ht hW => mx_end Z t ht _) Z.2.2.2 dX5_train_76
    · replace hT := mx_f hT h_4
      by_cases h_5 : x2 = 1
      · replace hT := mx_t hT h_5
        refine lv_tableIn (tgt := 77) hx hb dX5_train_17 (by rw [h_5]; decide) (by rw [h_5]; decide) (by rw [h_5]; rfl) (by decide) ?_
        refine lv_aload_n hx hb dX5_train_77 rfl (lv_at hl 0 rfl) ?_
        refine mx_get (v := .int (G o_2 1)) (ci := 4) (C := RX4) (T := TX4) (N := 10) X Z ((hk_3 o_2 rfl)).i (((hk_3 o_2 rfl)).c _) rfl inlX4 1 (by decide) wd_12_12 rfl dX5_train_78 ?_
        cases hT
        exact W.iret hx hb hr (fun t ht hW => mx_end Z t ht _) Z.2.2.2 dX5_train_81
      · replace hT := mx_f hT h_5
        by_cases h_6 : x2 = 2
        · replace hT := mx_t hT h_6
          refine lv_tableIn (tgt := 82) hx hb dX5_train_17 (by rw [h_6]; decide) (by rw [h_6]; decide) (by rw [h_6]; rfl) (by decide) ?_
          refine lv_aload_n hx hb dX5_train_82 rfl (lv_at hl 0 rfl) ?_
          refine mx_get (v := .int (G o_2 2)) (ci := 4) (C := RX4) (T := TX4) (N := 10) X Z ((hk_3 o_2 rfl)).i (((hk_3 o_2 rfl)).c _) rfl inlX4 2 (by decide) wd_12_13 rfl dX5_train_83 ?_
          cases hT
          exact W.iret hx hb hr (fun t ht hW => mx_end Z t ht _) Z.2.2.2 dX5_train_86
        · replace hT := mx_f hT h_6
          by_cases h_7 : x2 = 3
          · replace hT := mx_t hT h_7
            refine lv_tableIn (tgt := 87) hx hb dX5_train_17 (by rw [h_7]; decide) (by rw [h_7]; decide) (by rw [h_7]; rfl) (by decide) ?_
            refine lv_aload_n hx hb dX5_train_87 rfl (lv_at hl 0 rfl) ?_
            refine mx_get (v := .int (G o_2 3)) (ci := 4) (C := RX4) (T := TX4) (N := 10) X Z ((hk_3 o_2 rfl)).i (((hk_3 o_2 rfl)).c _) rfl inlX4 3 (by decide) wd_12_14 rfl dX5_train_88 ?_
            cases hT
            exact W.iret hx hb hr (fun t ht hW => mx_end Z t ht _) Z.2.2.2 dX5_train_91
          · replace hT := mx_f hT h_7
            by_cases h_8 : x2 = 4
            · replace hT := mx_t hT h_8
              refine lv_tableIn (tgt := 92) hx hb dX5_train_17 (by rw [h_8]; decide) (by rw [h_8]; decide) (by rw [h_8]; rfl) (by decide) ?_
              refine lv_aload_n hx hb dX5_train_92 rfl (lv_at hl 0 rfl) ?_
              refine mx_get (v := .int (G o_2 4)) (ci := 4) (C := RX4) (T := TX4) (N := 10) X Z ((hk_3 o_2 rfl)).i (((hk_3 o_2 rfl)).c _) rfl inlX4 4 (by decide) wd_12_15 rfl dX5_train_93 ?_
              refine lv_if_eq (tgt := 103) hx hb dX5_train_96 (by decide) (fun h_9 => ?_) (fun h_9 => ?_)
              · replace hT := mx_t hT h_9
                refine lv_iconst (v := (0 : Int32)) hx hb dX5_train_103 (by decide) ?_
                cases hT
                exact W.iret hx hb hr (fun t ht hW => mx_end Z t ht _) Z.2.2.2 dX5_train_104
              · replace hT := mx_f hT h_9
                refine lv_iconst (v := (1 : Int32)) hx hb dX5_train_99 (by decide) ?_
                refine lv_goto (tgt := 104) hx hb dX5_train_100 (by decide) ?_
                cases hT
                exact W.iret hx hb hr (fun t ht hW => mx_end Z t ht _) Z.2.2.2 dX5_train_104
            · replace hT := mx_f hT h_8
              by_cases h_10 : x2 = 5
              · replace hT := mx_t hT h_10
                refine lv_tableIn (tgt := 105) hx hb dX5_train_17 (by rw [h_10]; decide) (by rw [h_10]; decide) (by rw [h_10]; rfl) (by decide) ?_
                refine lv_aload_n hx hb dX5_train_105 rfl (lv_at hl 0 rfl) ?_
                refine mx_get (v := .int (G o_2 5)) (ci := 4) (C := RX4) (T := TX4) (N := 10) X Z ((hk_3 o_2 rfl)).i (((hk_3 o_2 rfl)).c _) rfl inlX4 5 (by decide) wd_12_16 rfl dX5_train_106 ?_
                cases hT
                exact W.iret hx hb hr (fun t ht hW => mx_end Z t ht _) Z.2.2.2 dX5_train_109
              · replace hT := mx_f hT h_10
                by_cases h_11 : x2 = 6
                · replace hT := mx_t hT h_11
                  refine lv_tableIn (tgt := 110) hx hb dX5_train_17 (by rw [h_11]; decide) (by rw [h_11]; decide) (by rw [h_11]; rfl) (by decide) ?_
                  refine lv_aload_n hx hb dX5_train_110 rfl (lv_at hl 0 rfl) ?_
                  refine mx_get (v := .int (G o_2 6)) (ci := 4) (C := RX4) (T := TX4) (N := 10) X Z ((hk_3 o_2 rfl)).i (((hk_3 o_2 rfl)).c _) rfl inlX4 6 (by decide) wd_12_17 rfl dX5_train_111 ?_
                  cases hT
                  exact W.iret hx hb hr (fun t ht hW => mx_end Z t ht _) Z.2.2.2 dX5_train_114
                · replace hT := mx_f hT h_11
                  by_cases h_12 : x2 = 7
                  · replace hT := mx_t hT h_12
                    refine lv_tableIn (tgt := 115) hx hb dX5_train_17 (by rw [h_12]; decide) (by rw [h_12]; decide) (by rw [h_12]; rfl) (by decide) ?_
                    refine lv_aload_n hx hb dX5_train_115 rfl (lv_at hl 0 rfl) ?_
                    refine mx_get (v := .int (G o_2 7)) (ci := 4) (C := RX4) (T := TX4) (N := 10) X Z ((hk_3 o_2 rfl)).i (((hk_3 o_2 rfl)).c _) rfl inlX4 7 (by decide) wd_12_18 rfl dX5_train_116 ?_
                    cases hT
                    exact W.iret hx hb hr (fun t ht hW => mx_end Z t ht _) Z.2.2.2 dX5_train_119
                  · replace hT := mx_f hT h_12
                    by_cases h_13 : x2 = 8
                    · replace hT := mx_t hT h_13
                      refine lv_tableIn (tgt := 120) hx hb dX5_train_17 (by rw [h_13]; decide) (by rw [h_13]; decide) (by rw [h_13]; rfl) (by decide) ?_
                      refine lv_aload_n hx hb dX5_train_120 rfl (lv_at hl 0 rfl) ?_
                      refine mx_get (v := .int (G o_2 8)) (ci := 4) (C := RX4) (T := TX4) (N := 10) X Z ((hk_3 o_2 rfl)).i (((hk_3 o_2 rfl)).c _) rfl inlX4 8 (by decide) wd_12_19 rfl dX5_train_121 ?_
                      cases hT
                      exact W.iret hx hb hr (fun t ht hW => mx_end Z t ht _) Z.2.2.2 dX5_train_124
                    · replace hT := mx_f hT h_13
                      by_cases h_14 : x2 = 9
                      · replace hT := mx_t hT h_14
                        refine lv_tableIn (tgt := 125) hx hb dX5_train_17 (by rw [h_14]; decide) (by rw [h_14]; decide) (by rw [h_14]; rfl) (by decide) ?_
                        refine lv_aload_n hx hb dX5_train_125 rfl (lv_at hl 0 rfl) ?_
                        obtain ⟨q_15, h_q_15, hT⟩ := mx_bind hT
                        refine mx_callV (As := []) (rest := []) (st1 := [.int (q_15)]) (C := RX4) (T := TX4) (N := 10) (ci := 4) X Z hl.1 (c4_weight l E hJ ((hk_3 o_2 rfl)) _ _ h_q_15) wd_12_21 wd_11_9 wd_11_10 wd_5_0 wd_11_11 hd4_weight ⟨Nat.le_trans (by decide) hR.1, Nat.le_trans (by decide) hR.2⟩ ⟨Nat.zero_le _, Nat.zero_le _⟩ ((hk_3 o_2 rfl)).i (((hk_3 o_2 rfl)).c _) rfl (Nat.le_of_ble_eq_true rfl) rfl rfl dX5_train_126 (fun H locs Z => ?_)
                        cases hT
                        exact W.iret hx hb hr (fun t ht hW => mx_end Z t ht _) Z.2.2.2 dX5_train_129
                      · replace hT := mx_f hT h_14
                        refine lv_tableOut (tgt := 130) hx hb dX5_train_17 (mx_out (n := 9) (by decide) (fun k hk => by rcases (show k = 0 ∨ k = 1 ∨ k = 2 ∨ k = 3 ∨ k = 4 ∨ k = 5 ∨ k = 6 ∨ k = 7 ∨ k = 8 ∨ k = 9 by omega) with rfl | rfl | rfl | rfl | rfl | rfl | rfl | rfl | rfl | rfl <;> assumption)) (by decide) ?_
                        refine lv_bipush (v := (-2 : Int32)) hx hb dX5_train_130 (by decide) ?_
                        cases hT
                        exact W.iret hx hb hr (fun t ht hW => mx_end Z t ht _) Z.2.2.2 dX5_train_132
/-! PeatRailway.why -/
def x5_why (x1 : Int32) (G : mM) : Option Int32 :=
  (x3_trainAt 0 x1 G).bind fun q_1 =>
  mOpt q_1 (
    some ((-2 : Int32))) fun o_2 =>
    (x3_reasonToWait 0 o_2 G).bind fun q_4 =>
    some (q_4)
theorem hd5_why : yX5_why.cls = RX5 ∧ yX5_why.cls ≠ "java/lang/invoke/MethodHandle" ∧ yX5_why.cls ≠ "java/lang/invoke/VarHandle" ∧ (parseMethodDescriptor yX5_why.desc).map (fun d => d.parameters.length) = some 1 := by decide +kernel
set_option maxHeartbeats 4000000 in
set_option maxRecDepth 100000 in
theorem c5_why (l : Launch) (E : mE) (hJ : mJ E) (hc : mAl E 240) (x1 : Int32) (G : mM) (q : Int32) (hT : x5_why x1 G = some q) : mMet l E yX5_why cX5_why 3 (some .int) 3 71 [.ref (mad E (240)), .int (x1)] G (some (.int q)) G := by
  refine Met.ofW (cc := cX5_why) (maxL := 3) (ret := (some .int)) (by decide) rfl ?_
  intro p e s m args below meth cd s₁ B hml hv
  obtain ⟨rfl, hP, hK, hS⟩ := hv
  have X := mx_entry (own := RX5) B hml hK hJ hS rfl
  have hx := X.1
  have hb := X.2.1
  have hown := X.2.2.2.1
  have hts := X.2.2.2.2.1
  have hr := B.returns
  have hlocks := B.notSynchronized
  have hR : 3 ≤ (headSpec (mWs yX5_why cX5_why 3 (some .int)) ({ frames := 3, cells := 0, slots := 0, locals := 71 })).room.frames ∧ 71 ≤ (headSpec (mWs yX5_why cX5_why 3 (some .int)) ({ frames := 3, cells := 0, slots := 0, locals := 71 })).room.locals := ⟨Nat.le_refl _, Nat.le_refl _⟩
  have Z : mZ E s.heap s.heap [] G := ⟨hP, va_S.rf⟩
  have hl := lv_entry ([.ref (mad E (240)), .int (x1)]) (n := 3) (Nat.le_of_ble_eq_true rfl)
  rw [lg_entry_eq]
  generalize (lg_sl ([.ref (mad E (240)), .int (x1)]) ++ List.replicate (3 - (lg_sl ([.ref (mad E (240)), .int (x1)])).length) Slot.unset).toArray = ls at hl ⊢
  have hl : lv_has ls 3 [(0, .ref (mad E (240))), (1, .int (x1))] := hl
  unfold x5_why at hT
  refine lv_aload_n hx hb dX5_why_0 rfl (lv_at hl 0 rfl) ?_
  refine mx_get (v := .ref (mad E (0))) (ci := 5) (C := RX5) (T := TX5) (N := 6) X Z hc.i (hc.c _) rfl inlX5 1 (by decide) wd_1_18 rfl dX5_why_1 ?_
  refine lv_iload_n hx hb dX5_why_4 rfl (lv_at hl 1 rfl) ?_
  obtain ⟨q_1, h_q_1, hT⟩ := mx_bind hT
  refine mx_callV (As := [.int (x1)]) (rest := []) (st1 := [va_re (mad E) q_1]) (C := RX3) (T := TX3) (N := 11) (ci := 3) X Z hl.1 (c3_trainAt l E hJ hc.now _ _ _ h_q_1) wd_12_20 wd_11_1 wd_11_2 wd_1_16 wd_11_3 hd3_trainAt ⟨Nat.le_trans (by decide) hR.1, Nat.le_trans (by decide) hR.2⟩ ⟨Nat.zero_le _, Nat.zero_le _⟩ hc.now.i (hc.now.c _) rfl (Nat.le_of_ble_eq_true rfl) rfl rfl dX5_why_5 (fun H locs Z => ?_)
  have hk_3 := c3_trainAt_k E hc.now _ _ _ h_q_1
  rcases q_1 with _ | o_2
  · replace hT := mx_on hT
    refine mx_tops (s2 := [.null]) rfl ?_
    refine lv_astore_nN (lv' := [(2, .null), (0, .ref (mad E (240))), (1, .int (x1))]) hx hb dX5_why_8 rfl hl (by decide) rfl (fun ls hl => ?_)
    refine lv_aload_nN hx hb dX5_why_9 rfl (lv_at hl 0 rfl) ?_
    refine lv_ifnonnullN hx hb dX5_why_10 ?_
    refine lv_bipush (v := (-2 : Int32)) hx hb dX5_why_13 (by decide) ?_
    cases hT
    exact W.iret hx hb hr (fun t ht hW => mx_end Z t ht _) Z.2.2.2 dX5_why_15
  · replace hT := mx_os hT
    refine mx_tops (s2 := [.ref (mad E o_2)]) rfl ?_
    refine lv_astore_n (lv' := [(2, .ref (mad E (o_2))), (0, .ref (mad E (240))), (1, .int (x1))]) hx hb dX5_why_8 rfl hl (by decide) rfl (fun ls hl => ?_)
    refine lv_aload_n hx hb dX5_why_9 rfl (lv_at hl 0 rfl) ?_
    refine lv_ifnonnull (tgt := 16) hx hb dX5_why_10 (by decide) ?_
    refine lv_aload_n hx hb dX5_why_16 rfl (lv_at hl 1 rfl) ?_
    refine mx_get (v := .ref (mad E (0))) (ci := 5) (C := RX5) (T := TX5) (N := 6) X Z hc.i (hc.c _) rfl inlX5 1 (by decide) wd_1_18 rfl dX5_why_17 ?_
    refine lv_aload_n hx hb dX5_why_20 rfl (lv_at hl 0 rfl) ?_
    obtain ⟨q_4, h_q_4, hT⟩ := mx_bind hT
    refine mx_callV (As := [.ref (mad E (o_2))]) (rest := []) (st1 := [.int (q_4)]) (C := RX3) (T := TX3) (N := 11) (ci := 3) X Z hl.1 (c3_reasonToWait l E hJ hc.now ((hk_3 o_2 rfl)) _ _ h_q_4) wd_13_2 wd_13_3 wd_13_4 wd_1_16 wd_13_5 hd3_reasonToWait ⟨Nat.le_trans (by decide) hR.1, Nat.le_trans (by decide) hR.2⟩ ⟨Nat.zero_le _, Nat.zero_le _⟩ hc.now.i (hc.now.c _) rfl (Nat.le_of_ble_eq_true rfl) rfl rfl dX5_why_21 (fun H locs Z => ?_)
    cases hT
    exact W.iret hx hb hr (fun t ht hW => mx_end Z t ht _) Z.2.2.2 dX5_why_24
/-! PeatRailway.account -/
def x5_account (x1 : Int32) (G : mM) : Option Int32 :=
  if x1 = 0 then
    some (G 0 6)
  else
    if x1 = 1 then
      some (G 0 5)
    else
      if x1 = 2 then
        (x3_peatInTrains 0 G).bind fun q_4 =>
        some (q_4)
      else
        if x1 = 3 then
          some (G 0 7)
        else
          if x1 = 4 then
            some (G 0 8)
          else
            some ((-2 : Int32))
theorem hd5_account : yX5_account.cls = RX5 ∧ yX5_account.cls ≠ "java/lang/invoke/MethodHandle" ∧ yX5_account.cls ≠ "java/lang/invoke/VarHandle" ∧ (parseMethodDescriptor yX5_account.desc).map (fun d => d.parameters.length) = some 1 := by decide +kernel
set_option maxHeartbeats 4000000 in
set_option maxRecDepth 100000 in
theorem c5_account (l : Launch) (E : mE) (hJ : mJ E) (hc : mAl E 240) (x1 : Int32) (G : mM) (q : Int32) (hT : x5_account x1 G = some q) : mMet l E yX5_account cX5_account 2 (some .int) 2 44 [.ref (mad E (240)), .int (x1)] G (some (.int q)) G := by
  refine Met.ofW (cc := cX5_account) (maxL := 2) (ret := (some .int)) (by decide) rfl ?_
  intro p e s m args below meth cd s₁ B hml hv
  obtain ⟨rfl, hP, hK, hS⟩ := hv
  have X := mx_entry (own := RX5) B hml hK hJ hS rfl
  have hx := X.1
  have hb := X.2.1
  have hown := X.2.2.2.1
  have hts := X.2.2.2.2.1
  have hr := B.returns
  have hlocks := B.notSynchronized
  have hR : 2 ≤ (headSpec (mWs yX5_account cX5_account 2 (some .int)) ({ frames := 2, cells := 0, slots := 0, locals := 44 })).room.frames ∧ 44 ≤ (headSpec (mWs yX5_account cX5_account 2 (some .int)) ({ frames := 2, cells := 0, slots := 0, locals := 44 })).room.locals := ⟨Nat.le_refl _, Nat.le_refl _⟩
  have Z : mZ E s.heap s.heap [] G := ⟨hP, va_S.rf⟩
  have hl := lv_entry ([.ref (mad E (240)), .int (x1)]) (n := 2) (Nat.le_of_ble_eq_true rfl)
  rw [lg_entry_eq]
  generalize (lg_sl ([.ref (mad E (240)), .int (x1)]) ++ List.replicate (2 - (lg_sl ([.ref (mad E (240)), .int (x1)])).length) Slot.unset).toArray = ls at hl ⊢
  have hl : lv_has ls 2 [(0, .ref (mad E (240))), (1, .int (x1))] := hl
  unfold x5_account at hT
  refine lv_iload_n hx hb dX5_account_0 rfl (lv_at hl 1 rfl) ?_
  by_cases h_1 : x1 = 0
  · replace hT := mx_t hT h_1
    refine lv_tableIn (tgt := 36) hx hb dX5_account_1 (by rw [h_1]; decide) (by rw [h_1]; decide) (by rw [h_1]; rfl) (by decide) ?_
    refine lv_aload_n hx hb dX5_account_36 rfl (lv_at hl 0 rfl) ?_
    refine mx_get (v := .ref (mad E (0))) (ci := 5) (C := RX5) (T := TX5) (N := 6) X Z hc.i (hc.c _) rfl inlX5 1 (by decide) wd_1_18 rfl dX5_account_37 ?_
    refine mx_get (v := .int (G 0 6)) (ci := 3) (C := RX3) (T := TX3) (N := 11) X Z hc.now.i (hc.now.c _) rfl inlX3 6 (by decide) wd_14_22 rfl dX5_account_40 ?_
    cases hT
    exact W.iret hx hb hr (fun t ht hW => mx_end Z t ht _) Z.2.2.2 dX5_account_43
  · replace hT := mx_f hT h_1
    by_cases h_2 : x1 = 1
    · replace hT := mx_t hT h_2
      refine lv_tableIn (tgt := 44) hx hb dX5_account_1 (by rw [h_2]; decide) (by rw [h_2]; decide) (by rw [h_2]; rfl) (by decide) ?_
      refine lv_aload_n hx hb dX5_account_44 rfl (lv_at hl 0 rfl) ?_
      refine mx_get (v := .ref (mad E (0))) (ci := 5) (C := RX5) (T := TX5) (N := 6) X Z hc.i (hc.c _) rfl inlX5 1 (by decide) wd_1_18 rfl dX5_account_45 ?_
      refine mx_get (v := .int (G 0 5)) (ci := 3) (C := RX3) (T := TX3) (N := 11) X Z hc.now.i (hc.now.c _) rfl inlX3 5 (by decide) wd_14_23 rfl dX5_account_48 ?_
      cases hT
      exact W.iret hx hb hr (fun t ht hW => mx_end Z t ht _) Z.2.2.2 dX5_account_51
    · replace hT := mx_f hT h_2
      by_cases h_3 : x1 = 2
      · replace hT := mx_t hT h_3
        refine lv_tableIn (tgt := 52) hx hb dX5_account_1 (by rw [h_3]; decide) (by rw [h_3]; decide) (by rw [h_3]; rfl) (by decide) ?_
        refine lv_aload_n hx hb dX5_account_52 rfl (lv_at hl 0 rfl) ?_
        refine mx_get (v := .ref (mad E (0))) (ci := 5) (C := RX5) (T := TX5) (N := 6) X Z hc.i (hc.c _) rfl inlX5 1 (by decide) wd_1_18 rfl dX5_account_53 ?_
        obtain ⟨q_4, h_q_4, hT⟩ := mx_bind hT
        refine mx_callV (As := []) (rest := []) (st1 := [.int (q_4)]) (C := RX3) (T := TX3) (N := 11) (ci := 3) X Z hl.1 (c3_peatInTrains l E hJ hc.now _ _ h_q_4) wd_15_2 wd_15_3 wd_15_4 wd_1_16 wd_15_5 hd3_peatInTrains ⟨Nat.le_trans (by decide) hR.1, Nat.le_trans (by decide) hR.2⟩ ⟨Nat.zero_le _, Nat.zero_le _⟩ hc.now.i (hc.now.c _) rfl (Nat.le_of_ble_eq_true rfl) rfl rfl dX5_account_56 (fun H locs Z => ?_)
        cases hT
        exact W.iret hx hb hr (fun t ht hW => mx_end Z t ht _) Z.2.2.2 dX5_account_59
      · replace hT := mx_f hT h_3
        by_cases h_5 : x1 = 3
        · replace hT := mx_t hT h_5
          refine lv_tableIn (tgt := 60) hx hb dX5_account_1 (by rw [h_5]; decide) (by rw [h_5]; decide) (by rw [h_5]; rfl) (by decide) ?_
          refine lv_aload_n hx hb dX5_account_60 rfl (lv_at hl 0 rfl) ?_
          refine mx_get (v := .ref (mad E (0))) (ci := 5) (C := RX5) (T := TX5) (N := 6) X Z hc.i (hc.c _) rfl inlX5 1 (by decide) wd_1_18 rfl dX5_account_61 ?_
          refine mx_get (v := .int (G 0 7)) (ci := 3) (C := RX3) (T := TX3) (N := 11) X Z hc.now.i (hc.now.c _) rfl inlX3 7 (by decide) wd_15_0 rfl dX5_account_64 ?_
          cases hT
          exact W.iret hx hb hr (fun t ht hW => mx_end Z t ht _) Z.2.2.2 dX5_account_67
        · replace hT := mx_f hT h_5
          by_cases h_6 : x1 = 4
          · replace hT := mx_t hT h_6
            refine lv_tableIn (tgt := 68) hx hb dX5_account_1 (by rw [h_6]; decide) (by rw [h_6]; decide) (by rw [h_6]; rfl) (by decide) ?_
            refine lv_aload_n hx hb dX5_account_68 rfl (lv_at hl 0 rfl) ?_
            refine mx_get (v := .ref (mad E (0))) (ci := 5) (C := RX5) (T := TX5) (N := 6) X Z hc.i (hc.c _) rfl inlX5 1 (by decide) wd_1_18 rfl dX5_account_69 ?_
            refine mx_get (v := .int (G 0 8)) (ci := 3) (C := RX3) (T := TX3) (N := 11) X Z hc.now.i (hc.now.c _) rfl inlX3 8 (by decide) wd_15_1 rfl dX5_account_72 ?_
            cases hT
            exact W.iret hx hb hr (fun t ht hW => mx_end Z t ht _) Z.2.2.2 dX5_account_75
          · replace hT := mx_f hT h_6
            refine lv_tableOut (tgt := 76) hx hb dX5_account_1 (mx_out (n := 4) (by decide) (fun k hk => by rcases (show k = 0 ∨ k = 1 ∨ k = 2 ∨ k = 3 ∨ k = 4 by omega) with rfl | rfl | rfl | rfl | rfl <;> assumption)) (by decide) ?_
            refine lv_bipush (v := (-2 : Int32)) hx hb dX5_account_76 (by decide) ?_
            cases hT
            exact W.iret hx hb hr (fun t ht hW => mx_end Z t ht _) Z.2.2.2 dX5_account_78
/-! PeatRailway$State.greatestSinking -/
def x3_greatestSinking_L4 (y0 : Nat) : Nat → Int32 → Int32 → mM → Option (Int32)
  | 0, _, _, _ => none
  | n + 1, w1, w2, G =>
    if ((12 : Int32)) ≤ w2 then
      some (w1)
    else
      (x3_segmentAt y0 w2 G).bind fun q_2 =>
      mOpt q_2 (
        mNm (w2 + (1 : Int32)) fun v_5 =>
        x3_greatestSinking_L4 y0 n w1 v_5 G) fun o_3 =>
        mNm (if w1 < (G o_3 2) then (G o_3 2) else w1) fun v_6 =>
        mNm (w2 + (1 : Int32)) fun v_7 =>
        x3_greatestSinking_L4 y0 n v_6 v_7 G
def x3_greatestSinking (c : Nat) (G : mM) : Option Int32 :=
  (x3_greatestSinking_L4 c mFu ((0 : Int32)) ((0 : Int32)) G).bind fun q_8 =>
  some (q_8)
theorem hd3_greatestSinking : yX3_greatestSinking.cls = RX3 ∧ yX3_greatestSinking.cls ≠ "java/lang/invoke/MethodHandle" ∧ yX3_greatestSinking.cls ≠ "java/lang/invoke/VarHandle" ∧ (parseMethodDescriptor yX3_greatestSinking.desc).map (fun d => d.parameters.length) = some 0 := by decide +kernel
set_option maxHeartbeats 4000000 in
set_option maxRecDepth 100000 in
theorem k3_greatestSinking_4 {p : Program} {l : Launch} {e : Env} {R : Room} {s : State} {m : MethodId} {args : Array Value} {below : List Frame} {meth : Method} {cd : Code} {Q : State → Prop} {E : mE} (X : mX p s m args cd cX3_greatestSinking 4 RX3 E) (hR : 1 ≤ R.frames ∧ 21 ≤ R.locals) (hJ : mJ E) {y0 : Nat} (hy0 : mSt E y0) : ∀ (n : Nat) (w1 : Int32) (w2 : Int32) (G : mM) (H : Heap) (locs : List Loc) (ls : Array Slot) (r : Int32), x3_greatestSinking_L4 y0 n w1 w2 G = some r → mZ E s.heap H locs G → lv_has ls 4 [(0, .ref (mad E (y0))), (1, .int (w1)), (2, .int (w2))] → (∀ (H : Heap) (locs : List Loc) (ls : Array Slot), mZ E s.heap H locs G → lv_has ls 4 [(0, .ref (mad E (y0))), (1, .int (r))] → W p l e R s m args below meth cd H locs 0 0 Q (F0 m 35 ls [])) → W p l e R s m args below meth cd H locs 0 0 Q (F0 m 4 ls []) := by
  have hx := X.1
  have hb := X.2.1
  have hown := X.2.2.2.1
  have hts := X.2.2.2.2.1
  intro n
  induction n with
  | zero =>
    intro w1 w2 G H locs ls r hT
    rw [x3_greatestSinking_L4] at hT
    cases hT
  | succ n ih =>
    intro w1 w2 G H locs ls r hT Z hl k0
    rw [x3_greatestSinking_L4] at hT
    refine lv_iload_n hx hb dX3_greatestSinking_4 rfl (lv_at hl 2 rfl) ?_
    refine lv_bipush (v := (12 : Int32)) hx hb dX3_greatestSinking_5 (by decide) ?_
    refine lv_icmp_ge (tgt := 35) hx hb dX3_greatestSinking_7 (by decide) (fun h_1 => ?_) (fun h_1 => ?_)
    · replace hT := mx_t hT h_1
      cases hT
      exact k0 _ _ _ Z (lv_sub hl [0, 1] rfl)
    · replace hT := mx_f hT h_1
      refine lv_aload_n hx hb dX3_greatestSinking_10 rfl (lv_at hl 0 rfl) ?_
      refine lv_iload_n hx hb dX3_greatestSinking_11 rfl (lv_at hl 2 rfl) ?_
      obtain ⟨q_2, h_q_2, hT⟩ := mx_bind hT
      refine mx_callV (As := [.int (w2)]) (rest := []) (st1 := [va_re (mad E) q_2]) (C := RX3) (T := TX3) (N := 11) (ci := 3) X Z hl.1 (c3_segmentAt l E hJ hy0 _ _ _ h_q_2) wd_6_4 wd_6_5 wd_6_6 wd_1_16 wd_6_7 hd3_segmentAt ⟨Nat.le_trans (by decide) hR.1, Nat.le_trans (by decide) hR.2⟩ ⟨Nat.zero_le _, Nat.zero_le _⟩ hy0.i (hy0.c _) rfl (Nat.le_of_ble_eq_true rfl) rfl rfl dX3_greatestSinking_12 (fun H locs Z => ?_)
      have hk_4 := c3_segmentAt_k E hy0 _ _ _ h_q_2
      rcases q_2 with _ | o_3
      · replace hT := mx_on hT
        refine mx_tops (s2 := [.null]) rfl ?_
        refine lv_astore_nN (lv' := [(3, .null), (0, .ref (mad E (y0))), (1, .int (w1)), (2, .int (w2))]) hx hb dX3_greatestSinking_15 rfl hl (by decide) rfl (fun ls hl => ?_)
        refine lv_aload_nN hx hb dX3_greatestSinking_16 rfl (lv_at hl 0 rfl) ?_
        refine lv_ifnullN (tgt := 29) hx hb dX3_greatestSinking_17 (by decide) ?_
        obtain ⟨v_5, e_v_5, hT⟩ := mx_nm hT
        refine lv_iinc (v := v_5) (lv' := [(2, .int (v_5)), (3, .null), (0, .ref (mad E (y0))), (1, .int (w1))]) hx hb dX3_greatestSinking_29 hl (k := 3) rfl (by rw [← e_v_5]; rfl) (by decide) rfl (fun ls hl => ?_)
        refine lv_goto (tgt := 4) hx hb dX3_greatestSinking_32 (by decide) ?_
        exact ih _ _ _ _ _ _ _ hT Z (lv_sub hl [2, 3, 0] rfl) k0
      · replace hT := mx_os hT
        refine mx_tops (s2 := [.ref (mad E o_3)]) rfl ?_
        refine lv_astore_n (lv' := [(3, .ref (mad E (o_3))), (0, .ref (mad E (y0))), (1, .int (w1)), (2, .int (w2))]) hx hb dX3_greatestSinking_15 rfl hl (by decide) rfl (fun ls hl => ?_)
        refine lv_aload_n hx hb dX3_greatestSinking_16 rfl (lv_at hl 0 rfl) ?_
        refine lv_ifnull hx hb dX3_greatestSinking_17 ?_
        refine lv_iload_n hx hb dX3_greatestSinking_20 rfl (lv_at hl 2 rfl) ?_
        refine lv_aload_n hx hb dX3_greatestSinking_21 rfl (lv_at hl 0 rfl) ?_
        refine mx_get (v := .int (G o_3 2)) (ci := 2) (C := RX2) (T := TX2) (N := 6) X Z ((hk_4 o_3 rfl)).i (((hk_4 o_3 rfl)).c _) rfl inlX2 2 (by decide) wd_13_6 rfl dX3_greatestSinking_22 ?_
        refine mx_max X hl.1 wd_15_20 wd_15_21 wd_15_22 wd_15_23 (Nat.le_trans (by decide) hR.1) (Nat.le_trans (Nat.le_of_ble_eq_true rfl) hR.2) ⟨Nat.zero_le _, Nat.zero_le _⟩ dX3_greatestSinking_25 ?_
        obtain ⟨v_6, e_v_6, hT⟩ := mx_nm hT
        refine mx_tops (congrArg (fun z => (.int (z) :: [] : List Value)) e_v_6) ?_
        refine lv_istore_n (lv' := [(1, .int (v_6)), (3, .ref (mad E (o_3))), (0, .ref (mad E (y0))), (2, .int (w2))]) hx hb dX3_greatestSinking_28 rfl hl (by decide) rfl (fun ls hl => ?_)
        obtain ⟨v_7, e_v_7, hT⟩ := mx_nm hT
        refine lv_iinc (v := v_7) (lv' := [(2, .int (v_7)), (1, .int (v_6)), (3, .ref (mad E (o_3))), (0, .ref (mad E (y0)))]) hx hb dX3_greatestSinking_29 hl (k := 3) rfl (by rw [← e_v_7]; rfl) (by decide) rfl (fun ls hl => ?_)
        refine lv_goto (tgt := 4) hx hb dX3_greatestSinking_32 (by decide) ?_
        exact ih _ _ _ _ _ _ _ hT Z (lv_sub hl [3, 1, 0] rfl) k0
set_option maxHeartbeats 4000000 in
set_option maxRecDepth 100000 in
theorem c3_greatestSinking (l : Launch) (E : mE) (hJ : mJ E) {c : Nat} (hc : mSt E c) (G : mM) (q : Int32) (hT : x3_greatestSinking c G = some q) : mMet l E yX3_greatestSinking cX3_greatestSinking 4 (some .int) 1 21 [.ref (mad E (c))] G (some (.int q)) G := by
  refine Met.ofW (cc := cX3_greatestSinking) (maxL := 4) (ret := (some .int)) (by decide) rfl ?_
  intro p e s m args below meth cd s₁ B hml hv
  obtain ⟨rfl, hP, hK, hS⟩ := hv
  have X := mx_entry (own := RX3) B hml hK hJ hS rfl
  have hx := X.1
  have hb := X.2.1
  have hown := X.2.2.2.1
  have hts := X.2.2.2.2.1
  have hr := B.returns
  have hlocks := B.notSynchronized
  have hR : 1 ≤ (headSpec (mWs yX3_greatestSinking cX3_greatestSinking 4 (some .int)) ({ frames := 1, cells := 0, slots := 0, locals := 21 })).room.frames ∧ 21 ≤ (headSpec (mWs yX3_greatestSinking cX3_greatestSinking 4 (some .int)) ({ frames := 1, cells := 0, slots := 0, locals := 21 })).room.locals := ⟨Nat.le_refl _, Nat.le_refl _⟩
  have Z : mZ E s.heap s.heap [] G := ⟨hP, va_S.rf⟩
  have hl := lv_entry ([.ref (mad E (c))]) (n := 4) (Nat.le_of_ble_eq_true rfl)
  rw [lg_entry_eq]
  generalize (lg_sl ([.ref (mad E (c))]) ++ List.replicate (4 - (lg_sl ([.ref (mad E (c))])).length) Slot.unset).toArray = ls at hl ⊢
  have hl : lv_has ls 4 [(0, .ref (mad E (c)))] := hl
  unfold x3_greatestSinking at hT
  refine lv_iconst (v := (0 : Int32)) hx hb dX3_greatestSinking_0 (by decide) ?_
  refine lv_istore_n (lv' := [(1, .int ((0 : Int32))), (0, .ref (mad E (c)))]) hx hb dX3_greatestSinking_1 rfl hl (by decide) rfl (fun ls hl => ?_)
  refine lv_iconst (v := (0 : Int32)) hx hb dX3_greatestSinking_2 (by decide) ?_
  refine lv_istore_n (lv' := [(2, .int ((0 : Int32))), (1, .int ((0 : Int32))), (0, .ref (mad E (c)))]) hx hb dX3_greatestSinking_3 rfl hl (by decide) rfl (fun ls hl => ?_)
  obtain ⟨q_8, h_q_8, hT⟩ := mx_bind hT
  refine k3_greatestSinking_4 X hR hJ hc  _ _ _ _ _ _ _ _ h_q_8 Z (lv_sub (l' := [(0, .ref (mad E (c))), (1, .int ((0 : Int32))), (2, .int ((0 : Int32)))]) hl [2, 1, 0] rfl) (fun H locs ls Z hl => ?_)
  · refine lv_iload_n hx hb dX3_greatestSinking_35 rfl (lv_at hl 1 rfl) ?_
    cases hT
    exact W.iret hx hb hr (fun t ht hW => mx_end Z t ht _) Z.2.2.2 dX3_greatestSinking_36
/-! PeatRailway$State.waitsOfAll -/
def x3_waitsOfAll_L4 (y0 : Nat) : Nat → Int32 → Int32 → mM → Option (Int32)
  | 0, _, _, _ => none
  | n + 1, w1, w2, G =>
    if ((4 : Int32)) ≤ w2 then
      some (w1)
    else
      (x3_trainAt y0 w2 G).bind fun q_2 =>
      mOpt q_2 (
        mNm (w2 + (1 : Int32)) fun v_5 =>
        x3_waitsOfAll_L4 y0 n w1 v_5 G) fun o_3 =>
        mNm (w1 + (G o_3 7)) fun v_6 =>
        mNm (w2 + (1 : Int32)) fun v_7 =>
        x3_waitsOfAll_L4 y0 n v_6 v_7 G
def x3_waitsOfAll (c : Nat) (G : mM) : Option Int32 :=
  (x3_waitsOfAll_L4 c mFu ((0 : Int32)) ((0 : Int32)) G).bind fun q_8 =>
  some (q_8)
theorem hd3_waitsOfAll : yX3_waitsOfAll.cls = RX3 ∧ yX3_waitsOfAll.cls ≠ "java/lang/invoke/MethodHandle" ∧ yX3_waitsOfAll.cls ≠ "java/lang/invoke/VarHandle" ∧ (parseMethodDescriptor yX3_waitsOfAll.desc).map (fun d => d.parameters.length) = some 0 := by decide +kernel
set_option maxHeartbeats 4000000 in
set_option maxRecDepth 100000 in
theorem k3_waitsOfAll_4 {p : Program} {l : Launch} {e : Env} {R : Room} {s : State} {m : MethodId} {args : Array Value} {below : List Frame} {meth : Method} {cd : Code} {Q : State → Prop} {E : mE} (X : mX p s m args cd cX3_waitsOfAll 4 RX3 E) (hR : 1 ≤ R.frames ∧ 21 ≤ R.locals) (hJ : mJ E) {y0 : Nat} (hy0 : mSt E y0) : ∀ (n : Nat) (w1 : Int32) (w2 : Int32) (G : mM) (H : Heap) (locs : List Loc) (ls : Array Slot) (r : Int32), x3_waitsOfAll_L4 y0 n w1 w2 G = some r → mZ E s.heap H locs G → lv_has ls 4 [(0, .ref (mad E (y0))), (1, .int (w1)), (2, .int (w2))] → (∀ (H : Heap) (locs : List Loc) (ls : Array Slot), mZ E s.heap H locs G → lv_has ls 4 [(0, .ref (mad E (y0))), (1, .int (r))] → W p l e R s m args below meth cd H locs 0 0 Q (F0 m 32 ls [])) → W p l e R s m args below meth cd H locs 0 0 Q (F0 m 4 ls []) := by
  have hx := X.1
  have hb := X.2.1
  have hown := X.2.2.2.1
  have hts := X.2.2.2.2.1
  intro n
  induction n with
  | zero =>
    intro w1 w2 G H locs ls r hT
    rw [x3_waitsOfAll_L4] at hT
    cases hT
  | succ n ih =>
    intro w1 w2 G H locs ls r hT Z hl k0
    rw [x3_waitsOfAll_L4] at hT
    refine lv_iload_n hx hb dX3_waitsOfAll_4 rfl (lv_at hl 2 rfl) ?_
    refine lv_iconst (v := (4 : Int32)) hx hb dX3_waitsOfAll_5 (by decide) ?_
    refine lv_icmp_ge (tgt := 32) hx hb dX3_waitsOfAll_6 (by decide) (fun h_1 => ?_) (fun h_1 => ?_)
    · replace hT := mx_t hT h_1
      cases hT
      exact k0 _ _ _ Z (lv_sub hl [0, 1] rfl)
    · replace hT := mx_f hT h_1
      refine lv_aload_n hx hb dX3_waitsOfAll_9 rfl (lv_at hl 0 rfl) ?_
      refine lv_iload_n hx hb dX3_waitsOfAll_10 rfl (lv_at hl 2 rfl) ?_
      obtain ⟨q_2, h_q_2, hT⟩ := mx_bind hT
      refine mx_callV (As := [.int (w2)]) (rest := []) (st1 := [va_re (mad E) q_2]) (C := RX3) (T := TX3) (N := 11) (ci := 3) X Z hl.1 (c3_trainAt l E hJ hy0 _ _ _ h_q_2) wd_11_0 wd_11_1 wd_11_2 wd_1_16 wd_11_3 hd3_trainAt ⟨Nat.le_trans (by decide) hR.1, Nat.le_trans (by decide) hR.2⟩ ⟨Nat.zero_le _, Nat.zero_le _⟩ hy0.i (hy0.c _) rfl (Nat.le_of_ble_eq_true rfl) rfl rfl dX3_waitsOfAll_11 (fun H locs Z => ?_)
      have hk_4 := c3_trainAt_k E hy0 _ _ _ h_q_2
      rcases q_2 with _ | o_3
      · replace hT := mx_on hT
        refine mx_tops (s2 := [.null]) rfl ?_
        refine lv_astore_nN (lv' := [(3, .null), (0, .ref (mad E (y0))), (1, .int (w1)), (2, .int (w2))]) hx hb dX3_waitsOfAll_14 rfl hl (by decide) rfl (fun ls hl => ?_)
        refine lv_aload_nN hx hb dX3_waitsOfAll_15 rfl (lv_at hl 0 rfl) ?_
        refine lv_ifnullN (tgt := 26) hx hb dX3_waitsOfAll_16 (by decide) ?_
        obtain ⟨v_5, e_v_5, hT⟩ := mx_nm hT
        refine lv_iinc (v := v_5) (lv' := [(2, .int (v_5)), (3, .null), (0, .ref (mad E (y0))), (1, .int (w1))]) hx hb dX3_waitsOfAll_26 hl (k := 3) rfl (by rw [← e_v_5]; rfl) (by decide) rfl (fun ls hl => ?_)
        refine lv_goto (tgt := 4) hx hb dX3_waitsOfAll_29 (by decide) ?_
        exact ih _ _ _ _ _ _ _ hT Z (lv_sub hl [2, 3, 0] rfl) k0
      · replace hT := mx_os hT
        refine mx_tops (s2 := [.ref (mad E o_3)]) rfl ?_
        refine lv_astore_n (lv' := [(3, .ref (mad E (o_3))), (0, .ref (mad E (y0))), (1, .int (w1)), (2, .int (w2))]) hx hb dX3_waitsOfAll_14 rfl hl (by decide) rfl (fun ls hl => ?_)
        refine lv_aload_n hx hb dX3_waitsOfAll_15 rfl (lv_at hl 0 rfl) ?_
        refine lv_ifnull hx hb dX3_waitsOfAll_16 ?_
        refine lv_iload_n hx hb dX3_waitsOfAll_19 rfl (lv_at hl 2 rfl) ?_
        refine lv_aload_n hx hb dX3_waitsOfAll_20 rfl (lv_at hl 0 rfl) ?_
        refine mx_get (v := .int (G o_3 7)) (ci := 4) (C := RX4) (T := TX4) (N := 10) X Z ((hk_4 o_3 rfl)).i (((hk_4 o_3 rfl)).c _) rfl inlX4 7 (by decide) wd_16_4 rfl dX3_waitsOfAll_21 ?_
        refine lv_iadd hx hb dX3_waitsOfAll_24 ?_
        obtain ⟨v_6, e_v_6, hT⟩ := mx_nm hT
        refine mx_tops (congrArg (fun z => (.int (z) :: [] : List Value)) e_v_6) ?_
        refine lv_istore_n (lv' := [(1, .int (v_6)), (3, .ref (mad E (o_3))), (0, .ref (mad E (y0))), (2, .int (w2))]) hx hb dX3_waitsOfAll_25 rfl hl (by decide) rfl (fun ls hl => ?_)
        obtain ⟨v_7, e_v_7, hT⟩ := mx_nm hT
        refine lv_iinc (v := v_7) (lv' := [(2, .int (v_7)), (1, .int (v_6)), (3, .ref (mad E (o_3))), (0, .ref (mad E (y0)))]) hx hb dX3_waitsOfAll_26 hl (k := 3) rfl (by rw [← e_v_7]; rfl) (by decide) rfl (fun ls hl => ?_)
        refine lv_goto (tgt := 4) hx hb dX3_waitsOfAll_29 (by decide) ?_
        exact ih _ _ _ _ _ _ _ hT Z (lv_sub hl [3, 1, 0] rfl) k0
set_option maxHeartbeats 4000000 in
set_option maxRecDepth 100000 in
theorem c3_waitsOfAll (l : Launch) (E : mE) (hJ : mJ E) {c : Nat} (hc : mSt E c) (G : mM) (q : Int32) (hT : x3_waitsOfAll c G = some q) : mMet l E yX3_waitsOfAll cX3_waitsOfAll 4 (some .int) 1 21 [.ref (mad E (c))] G (some (.int q)) G := by
  refine Met.ofW (cc := cX3_waitsOfAll) (maxL := 4) (ret := (some .int)) (by decide) rfl ?_
  intro p e s m args below meth cd s₁ B hml hv
  obtain ⟨rfl, hP, hK, hS⟩ := hv
  have X := mx_entry (own := RX3) B hml hK hJ hS rfl
  have hx := X.1
  have hb := X.2.1
  have hown := X.2.2.2.1
  have hts := X.2.2.2.2.1
  have hr := B.returns
  have hlocks := B.notSynchronized
  have hR : 1 ≤ (headSpec (mWs yX3_waitsOfAll cX3_waitsOfAll 4 (some .int)) ({ frames := 1, cells := 0, slots := 0, locals := 21 })).room.frames ∧ 21 ≤ (headSpec (mWs yX3_waitsOfAll cX3_waitsOfAll 4 (some .int)) ({ frames := 1, cells := 0, slots := 0, locals := 21 })).room.locals := ⟨Nat.le_refl _, Nat.le_refl _⟩
  have Z : mZ E s.heap s.heap [] G := ⟨hP, va_S.rf⟩
  have hl := lv_entry ([.ref (mad E (c))]) (n := 4) (Nat.le_of_ble_eq_true rfl)
  rw [lg_entry_eq]
  generalize (lg_sl ([.ref (mad E (c))]) ++ List.replicate (4 - (lg_sl ([.ref (mad E (c))])).length) Slot.unset).toArray = ls at hl ⊢
  have hl : lv_has ls 4 [(0, .ref (mad E (c)))] := hl
  unfold x3_waitsOfAll at hT
  refine lv_iconst (v := (0 : Int32)) hx hb dX3_waitsOfAll_0 (by decide) ?_
  refine lv_istore_n (lv' := [(1, .int ((0 : Int32))), (0, .ref (mad E (c)))]) hx hb dX3_waitsOfAll_1 rfl hl (by decide) rfl (fun ls hl => ?_)
  refine lv_iconst (v := (0 : Int32)) hx hb dX3_waitsOfAll_2 (by decide) ?_
  refine lv_istore_n (lv' := [(2, .int ((0 : Int32))), (1, .int ((0 : Int32))), (0, .ref (mad E (c)))]) hx hb dX3_waitsOfAll_3 rfl hl (by decide) rfl (fun ls hl => ?_)
  obtain ⟨q_8, h_q_8, hT⟩ := mx_bind hT
  refine k3_waitsOfAll_4 X hR hJ hc  _ _ _ _ _ _ _ _ h_q_8 Z (lv_sub (l' := [(0, .ref (mad E (c))), (1, .int ((0 : Int32))), (2, .int ((0 : Int32)))]) hl [2, 1, 0] rfl) (fun H locs ls Z hl => ?_)
  · refine lv_iload_n hx hb dX3_waitsOfAll_32 rfl (lv_at hl 1 rfl) ?_
    cases hT
    exact W.iret hx hb hr (fun t ht hW => mx_end Z t ht _) Z.2.2.2 dX3_waitsOfAll_33
/-! PeatRailway$State.sunkSegments -/
def x3_sunkSegments_L4 (y0 : Nat) : Nat → Int32 → Int32 → mM → Option (Int32)
  | 0, _, _, _ => none
  | n + 1, w1, w2, G =>
    if ((12 : Int32)) ≤ w2 then
      some (w1)
    else
      (x3_segmentAt y0 w2 G).bind fun q_2 =>
      mOpt q_2 (
        mNm (w2 + (1 : Int32)) fun v_5 =>
        x3_sunkSegments_L4 y0 n w1 v_5 G) fun o_3 =>
        if (G o_3 2) ≤ (G ((y0 + 3)) 0) then
          mNm (w2 + (1 : Int32)) fun v_7 =>
          x3_sunkSegments_L4 y0 n w1 v_7 G
        else
          mNm (w1 ||| (((1 : Int32)) <<< (w2 &&& 31))) fun v_8 =>
          mNm (w2 + (1 : Int32)) fun v_9 =>
          x3_sunkSegments_L4 y0 n v_8 v_9 G
def x3_sunkSegments (c : Nat) (G : mM) : Option Int32 :=
  (x3_sunkSegments_L4 c mFu ((0 : Int32)) ((0 : Int32)) G).bind fun q_10 =>
  some (q_10)
theorem hd3_sunkSegments : yX3_sunkSegments.cls = RX3 ∧ yX3_sunkSegments.cls ≠ "java/lang/invoke/MethodHandle" ∧ yX3_sunkSegments.cls ≠ "java/lang/invoke/VarHandle" ∧ (parseMethodDescriptor yX3_sunkSegments.desc).map (fun d => d.parameters.length) = some 0 := by decide +kernel
set_option maxHeartbeats 4000000 in
set_option maxRecDepth 100000 in
theorem k3_sunkSegments_4 {p : Program} {l : Launch} {e : Env} {R : Room} {s : State} {m : MethodId} {args : Array Value} {below : List Frame} {meth : Method} {cd : Code} {Q : State → Prop} {E : mE} (X : mX p s m args cd cX3_sunkSegments 4 RX3 E) (hR : 1 ≤ R.frames ∧ 21 ≤ R.locals) (hJ : mJ E) {y0 : Nat} (hy0 : mSt E y0) : ∀ (n : Nat) (w1 : Int32) (w2 : Int32) (G : mM) (H : Heap) (locs : List Loc) (ls : Array Slot) (r : Int32), x3_sunkSegments_L4 y0 n w1 w2 G = some r → mZ E s.heap H locs G → lv_has ls 4 [(0, .ref (mad E (y0))), (1, .int (w1)), (2, .int (w2))] → (∀ (H : Heap) (locs : List Loc) (ls : Array Slot), mZ E s.heap H locs G → lv_has ls 4 [(0, .ref (mad E (y0))), (1, .int (r))] → W p l e R s m args below meth cd H locs 0 0 Q (F0 m 45 ls [])) → W p l e R s m args below meth cd H locs 0 0 Q (F0 m 4 ls []) := by
  have hx := X.1
  have hb := X.2.1
  have hown := X.2.2.2.1
  have hts := X.2.2.2.2.1
  intro n
  induction n with
  | zero =>
    intro w1 w2 G H locs ls r hT
    rw [x3_sunkSegments_L4] at hT
    cases hT
  | succ n ih =>
    intro w1 w2 G H locs ls r hT Z hl k0
    rw [x3_sunkSegments_L4] at hT
    refine lv_iload_n hx hb dX3_sunkSegments_4 rfl (lv_at hl 2 rfl) ?_
    refine lv_bipush (v := (12 : Int32)) hx hb dX3_sunkSegments_5 (by decide) ?_
    refine lv_icmp_ge (tgt := 45) hx hb dX3_sunkSegments_7 (by decide) (fun h_1 => ?_) (fun h_1 => ?_)
    · replace hT := mx_t hT h_1
      cases hT
      exact k0 _ _ _ Z (lv_sub hl [0, 1] rfl)
    · replace hT := mx_f hT h_1
      refine lv_aload_n hx hb dX3_sunkSegments_10 rfl (lv_at hl 0 rfl) ?_
      refine lv_iload_n hx hb dX3_sunkSegments_11 rfl (lv_at hl 2 rfl) ?_
      obtain ⟨q_2, h_q_2, hT⟩ := mx_bind hT
      refine mx_callV (As := [.int (w2)]) (rest := []) (st1 := [va_re (mad E) q_2]) (C := RX3) (T := TX3) (N := 11) (ci := 3) X Z hl.1 (c3_segmentAt l E hJ hy0 _ _ _ h_q_2) wd_6_4 wd_6_5 wd_6_6 wd_1_16 wd_6_7 hd3_segmentAt ⟨Nat.le_trans (by decide) hR.1, Nat.le_trans (by decide) hR.2⟩ ⟨Nat.zero_le _, Nat.zero_le _⟩ hy0.i (hy0.c _) rfl (Nat.le_of_ble_eq_true rfl) rfl rfl dX3_sunkSegments_12 (fun H locs Z => ?_)
      have hk_4 := c3_segmentAt_k E hy0 _ _ _ h_q_2
      rcases q_2 with _ | o_3
      · replace hT := mx_on hT
        refine mx_tops (s2 := [.null]) rfl ?_
        refine lv_astore_nN (lv' := [(3, .null), (0, .ref (mad E (y0))), (1, .int (w1)), (2, .int (w2))]) hx hb dX3_sunkSegments_15 rfl hl (by decide) rfl (fun ls hl => ?_)
        refine lv_aload_nN hx hb dX3_sunkSegments_16 rfl (lv_at hl 0 rfl) ?_
        refine lv_ifnullN (tgt := 39) hx hb dX3_sunkSegments_17 (by decide) ?_
        obtain ⟨v_5, e_v_5, hT⟩ := mx_nm hT
        refine lv_iinc (v := v_5) (lv' := [(2, .int (v_5)), (3, .null), (0, .ref (mad E (y0))), (1, .int (w1))]) hx hb dX3_sunkSegments_39 hl (k := 3) rfl (by rw [← e_v_5]; rfl) (by decide) rfl (fun ls hl => ?_)
        refine lv_goto (tgt := 4) hx hb dX3_sunkSegments_42 (by decide) ?_
        exact ih _ _ _ _ _ _ _ hT Z (lv_sub hl [2, 3, 0] rfl) k0
      · replace hT := mx_os hT
        refine mx_tops (s2 := [.ref (mad E o_3)]) rfl ?_
        refine lv_astore_n (lv' := [(3, .ref (mad E (o_3))), (0, .ref (mad E (y0))), (1, .int (w1)), (2, .int (w2))]) hx hb dX3_sunkSegments_15 rfl hl (by decide) rfl (fun ls hl => ?_)
        refine lv_aload_n hx hb dX3_sunkSegments_16 rfl (lv_at hl 0 rfl) ?_
        refine lv_ifnull hx hb dX3_sunkSegments_17 ?_
        refine lv_aload_n hx hb dX3_sunkSegments_20 rfl (lv_at hl 0 rfl) ?_
        refine mx_get (v := .int (G o_3 2)) (ci := 2) (C := RX2) (T := TX2) (N := 6) X Z ((hk_4 o_3 rfl)).i (((hk_4 o_3 rfl)).c _) rfl inlX2 2 (by decide) wd_13_6 rfl dX3_sunkSegments_21 ?_
        refine lv_aload_n hx hb dX3_sunkSegments_24 rfl (lv_at hl 1 rfl) ?_
        refine mx_get (v := .ref (mad E ((y0 + 3)))) (ci := 3) (C := RX3) (T := TX3) (N := 11) X Z hy0.i (hy0.c _) rfl inlX3 2 (by decide) wd_5_1 rfl dX3_sunkSegments_25 ?_
        refine lv_iconst (v := (0 : Int32)) hx hb dX3_sunkSegments_28 (by decide) ?_
        refine mx_iald X Z hy0.sets (mx_lit (by decide)) dX3_sunkSegments_29 ?_
        refine mx_tops (s2 := [.int (G ((y0 + 3)) 0), .int (G o_3 2)]) rfl ?_
        refine lv_icmp_le (tgt := 39) hx hb dX3_sunkSegments_30 (by decide) (fun h_6 => ?_) (fun h_6 => ?_)
        · replace hT := mx_t hT h_6
          obtain ⟨v_7, e_v_7, hT⟩ := mx_nm hT
          refine lv_iinc (v := v_7) (lv' := [(2, .int (v_7)), (3, .ref (mad E (o_3))), (0, .ref (mad E (y0))), (1, .int (w1))]) hx hb dX3_sunkSegments_39 hl (k := 3) rfl (by rw [← e_v_7]; rfl) (by decide) rfl (fun ls hl => ?_)
          refine lv_goto (tgt := 4) hx hb dX3_sunkSegments_42 (by decide) ?_
          exact ih _ _ _ _ _ _ _ hT Z (lv_sub hl [2, 3, 0] rfl) k0
        · replace hT := mx_f hT h_6
          refine lv_iload_n hx hb dX3_sunkSegments_33 rfl (lv_at hl 2 rfl) ?_
          refine lv_iconst (v := (1 : Int32)) hx hb dX3_sunkSegments_34 (by decide) ?_
          refine lv_iload_n hx hb dX3_sunkSegments_35 rfl (lv_at hl 3 rfl) ?_
          refine lv_ishl hx hb dX3_sunkSegments_36 ?_
          refine lv_ior hx hb dX3_sunkSegments_37 ?_
          obtain ⟨v_8, e_v_8, hT⟩ := mx_nm hT
          refine mx_tops (congrArg (fun z => (.int (z) :: [] : List Value)) e_v_8) ?_
          refine lv_istore_n (lv' := [(1, .int (v_8)), (3, .ref (mad E (o_3))), (0, .ref (mad E (y0))), (2, .int (w2))]) hx hb dX3_sunkSegments_38 rfl hl (by decide) rfl (fun ls hl => ?_)
          obtain ⟨v_9, e_v_9, hT⟩ := mx_nm hT
          refine lv_iinc (v := v_9) (lv' := [(2, .int (v_9)), (1, .int (v_8)), (3, .ref (mad E (o_3))), (0, .ref (mad E (y0)))]) hx hb dX3_sunkSegments_39 hl (k := 3) rfl (by rw [← e_v_9]; rfl) (by decide) rfl (fun ls hl => ?_)
          refine lv_goto (tgt := 4) hx hb dX3_sunkSegments_42 (by decide) ?_
          exact ih _ _ _ _ _ _ _ hT Z (lv_sub hl [3, 1, 0] rfl) k0
set_option maxHeartbeats 4000000 in
set_option maxRecDepth 100000 in
theorem c3_sunkSegments (l : Launch) (E : mE) (hJ : mJ E) {c : Nat} (hc : mSt E c) (G : mM) (q : Int32) (hT : x3_sunkSegments c G = some q) : mMet l E yX3_sunkSegments cX3_sunkSegments 4 (some .int) 1 21 [.ref (mad E (c))] G (some (.int q)) G := by
  refine Met.ofW (cc := cX3_sunkSegments) (maxL := 4) (ret := (some .int)) (by decide) rfl ?_
  intro p e s m args below meth cd s₁ B hml hv
  obtain ⟨rfl, hP, hK, hS⟩ := hv
  have X := mx_entry (own := RX3) B hml hK hJ hS rfl
  have hx := X.1
  have hb := X.2.1
  have hown := X.2.2.2.1
  have hts := X.2.2.2.2.1
  have hr := B.returns
  have hlocks := B.notSynchronized
  have hR : 1 ≤ (headSpec (mWs yX3_sunkSegments cX3_sunkSegments 4 (some .int)) ({ frames := 1, cells := 0, slots := 0, locals := 21 })).room.frames ∧ 21 ≤ (headSpec (mWs yX3_sunkSegments cX3_sunkSegments 4 (some .int)) ({ frames := 1, cells := 0, slots := 0, locals := 21 })).room.locals := ⟨Nat.le_refl _, Nat.le_refl _⟩
  have Z : mZ E s.heap s.heap [] G := ⟨hP, va_S.rf⟩
  have hl := lv_entry ([.ref (mad E (c))]) (n := 4) (Nat.le_of_ble_eq_true rfl)
  rw [lg_entry_eq]
  generalize (lg_sl ([.ref (mad E (c))]) ++ List.replicate (4 - (lg_sl ([.ref (mad E (c))])).length) Slot.unset).toArray = ls at hl ⊢
  have hl : lv_has ls 4 [(0, .ref (mad E (c)))] := hl
  unfold x3_sunkSegments at hT
  refine lv_iconst (v := (0 : Int32)) hx hb dX3_sunkSegments_0 (by decide) ?_
  refine lv_istore_n (lv' := [(1, .int ((0 : Int32))), (0, .ref (mad E (c)))]) hx hb dX3_sunkSegments_1 rfl hl (by decide) rfl (fun ls hl => ?_)
  refine lv_iconst (v := (0 : Int32)) hx hb dX3_sunkSegments_2 (by decide) ?_
  refine lv_istore_n (lv' := [(2, .int ((0 : Int32))), (1, .int ((0 : Int32))), (0, .ref (mad E (c)))]) hx hb dX3_sunkSegments_3 rfl hl (by decide) rfl (fun ls hl => ?_)
  obtain ⟨q_10, h_q_10, hT⟩ := mx_bind hT
  refine k3_sunkSegments_4 X hR hJ hc  _ _ _ _ _ _ _ _ h_q_10 Z (lv_sub (l' := [(0, .ref (mad E (c))), (1, .int ((0 : Int32))), (2, .int ((0 : Int32)))]) hl [2, 1, 0] rfl) (fun H locs ls Z hl => ?_)
  · refine lv_iload_n hx hb dX3_sunkSegments_45 rfl (lv_at hl 1 rfl) ?_
    cases hT
    exact W.iret hx hb hr (fun t ht hW => mx_end Z t ht _) Z.2.2.2 dX3_sunkSegments_46
