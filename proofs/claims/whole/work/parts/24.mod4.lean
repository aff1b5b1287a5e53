/-! PeatRailwayModel.resting -/
def x6_resting (x1 : Int32) (G : mM) : Option Int32 :=
  (x6_seg x1 ((2 : Int32)) G).bind fun q_1 =>
  (x6_other ((0 : Int32)) G).bind fun q_2 =>
  mNm (q_1 - q_2) fun v_3 =>
  if 0 < v_3 then
    (x6_other ((1 : Int32)) G).bind fun q_5 =>
    (x6_other ((1 : Int32)) G).bind fun q_6 =>
    mCk (¬ q_6 = 0) <|
    some (((v_3 + q_5) - ((1 : Int32))) / q_6)
  else
    some ((0 : Int32))
theorem hd6_resting : yX6_resting.cls = RX6 ∧ yX6_resting.cls ≠ "java/lang/invoke/MethodHandle" ∧ yX6_resting.cls ≠ "java/lang/invoke/VarHandle" ∧ (parseMethodDescriptor yX6_resting.desc).map (fun d => d.parameters.length) = some 1 := by decide +kernel
set_option maxHeartbeats 4000000 in
set_option maxRecDepth 100000 in
theorem c6_resting (l : Launch) (E : mE) (hJ : mJ E) (hc : mMo E 246) (x1 : Int32) (G : mM) (q : Int32) (hT : x6_resting x1 G = some q) : mMet l E yX6_resting cX6_resting 3 (some .int) 1 22 [.ref (mad E (246)), .int (x1)] G (some (.int q)) G := by
  refine Met.ofW (cc := cX6_resting) (maxL := 3) (ret := (some .int)) (by decide) rfl ?_
  intro p e s m args below meth cd s₁ B hml hv
  obtain ⟨rfl, hP, hK, hS⟩ := hv
  have X := mx_entry (own := RX6) B hml hK hJ hS rfl
  have hx := X.1
  have hb := X.2.1
  have hown := X.2.2.2.1
  have hts := X.2.2.2.2.1
  have hr := B.returns
  have hlocks := B.notSynchronized
  have hR : 1 ≤ (headSpec (mWs yX6_resting cX6_resting 3 (some .int)) ({ frames := 1, cells := 0, slots := 0, locals := 22 })).room.frames ∧ 22 ≤ (headSpec (mWs yX6_resting cX6_resting 3 (some .int)) ({ frames := 1, cells := 0, slots := 0, locals := 22 })).room.locals := ⟨Nat.le_refl _, Nat.le_refl _⟩
  have Z : mZ E s.heap s.heap [] G := ⟨hP, va_S.rf⟩
  have hl := lv_entry ([.ref (mad E (246)), .int (x1)]) (n := 3) (Nat.le_of_ble_eq_true rfl)
  rw [lg_entry_eq]
  generalize (lg_sl ([.ref (mad E (246)), .int (x1)]) ++ List.replicate (3 - (lg_sl ([.ref (mad E (246)), .int (x1)])).length) Slot.unset).toArray = ls at hl ⊢
  have hl : lv_has ls 3 [(0, .ref (mad E (246))), (1, .int (x1))] := hl
  unfold x6_resting at hT
  refine lv_aload_n hx hb dX6_resting_0 rfl (lv_at hl 0 rfl) ?_
  refine lv_iload_n hx hb dX6_resting_1 rfl (lv_at hl 1 rfl) ?_
  refine lv_iconst (v := (2 : Int32)) hx hb dX6_resting_2 (by decide) ?_
  obtain ⟨q_1, h_q_1, hT⟩ := mx_bind hT
  refine mx_callV (As := [.int (x1), .int ((2 : Int32))]) (rest := []) (st1 := [.int (q_1)]) (C := RX6) (T := TX6) (N := 11) (ci := 6) X Z hl.1 (c6_seg l E hJ hc _ _ _ _ h_q_1) wd_21_23 wd_22_0 wd_22_1 wd_1_5 wd_22_2 hd6_seg ⟨Nat.le_trans (by decide) hR.1, Nat.le_trans (by decide) hR.2⟩ ⟨Nat.zero_le _, Nat.zero_le _⟩ hc.i (hc.c _) rfl (Nat.le_of_ble_eq_true rfl) rfl rfl dX6_resting_3 (fun H locs Z => ?_)
  refine lv_aload_n hx hb dX6_resting_6 rfl (lv_at hl 0 rfl) ?_
  refine lv_iconst (v := (0 : Int32)) hx hb dX6_resting_7 (by decide) ?_
  obtain ⟨q_2, h_q_2, hT⟩ := mx_bind hT
  refine mx_callV (As := [.int ((0 : Int32))]) (rest := [.int (q_1)]) (st1 := [.int (q_2), .int (q_1)]) (C := RX6) (T := TX6) (N := 11) (ci := 6) X Z hl.1 (c6_other l E hJ hc _ _ _ h_q_2) wd_14_8 wd_14_9 wd_14_10 wd_1_5 wd_14_11 hd6_other ⟨Nat.le_trans (by decide) hR.1, Nat.le_trans (by decide) hR.2⟩ ⟨Nat.zero_le _, Nat.zero_le _⟩ hc.i (hc.c _) rfl (Nat.le_of_ble_eq_true rfl) rfl rfl dX6_resting_8 (fun H locs Z => ?_)
  refine lv_isub hx hb dX6_resting_11 ?_
  obtain ⟨v_3, e_v_3, hT⟩ := mx_nm hT
  refine mx_tops (congrArg (fun z => (.int (z) :: [] : List Value)) e_v_3) ?_
  refine lv_istore_n (lv' := [(2, .int (v_3)), (0, .ref (mad E (246))), (1, .int (x1))]) hx hb dX6_resting_12 rfl hl (by decide) rfl (fun ls hl => ?_)
  refine lv_iload_n hx hb dX6_resting_13 rfl (lv_at hl 0 rfl) ?_
  refine lv_if_gt (tgt := 21) hx hb dX6_resting_14 (by decide) (fun h_4 => ?_) (fun h_4 => ?_)
  · replace hT := mx_t hT h_4
    refine lv_iload_n hx hb dX6_resting_21 rfl (lv_at hl 0 rfl) ?_
    refine lv_aload_n hx hb dX6_resting_22 rfl (lv_at hl 1 rfl) ?_
    refine lv_iconst (v := (1 : Int32)) hx hb dX6_resting_23 (by decide) ?_
    obtain ⟨q_5, h_q_5, hT⟩ := mx_bind hT
    refine mx_callV (As := [.int ((1 : Int32))]) (rest := [.int (v_3)]) (st1 := [.int (q_5), .int (v_3)]) (C := RX6) (T := TX6) (N := 11) (ci := 6) X Z hl.1 (c6_other l E hJ hc _ _ _ h_q_5) wd_14_8 wd_14_9 wd_14_10 wd_1_5 wd_14_11 hd6_other ⟨Nat.le_trans (by decide) hR.1, Nat.le_trans (by decide) hR.2⟩ ⟨Nat.zero_le _, Nat.zero_le _⟩ hc.i (hc.c _) rfl (Nat.le_of_ble_eq_true rfl) rfl rfl dX6_resting_24 (fun H locs Z => ?_)
    refine lv_iadd hx hb dX6_resting_27 ?_
    refine lv_iconst (v := (1 : Int32)) hx hb dX6_resting_28 (by decide) ?_
    refine lv_isub hx hb dX6_resting_29 ?_
    refine lv_aload_n hx hb dX6_resting_30 rfl (lv_at hl 1 rfl) ?_
    refine lv_iconst (v := (1 : Int32)) hx hb dX6_resting_31 (by decide) ?_
    obtain ⟨q_6, h_q_6, hT⟩ := mx_bind hT
    refine mx_callV (As := [.int ((1 : Int32))]) (rest := [.int ((v_3 + q_5) - ((1 : Int32)))]) (st1 := [.int (q_6), .int ((v_3 + q_5) - ((1 : Int32)))]) (C := RX6) (T := TX6) (N := 11) (ci := 6) X Z hl.1 (c6_other l E hJ hc _ _ _ h_q_6) wd_14_8 wd_14_9 wd_14_10 wd_1_5 wd_14_11 hd6_other ⟨Nat.le_trans (by decide) hR.1, Nat.le_trans (by decide) hR.2⟩ ⟨Nat.zero_le _, Nat.zero_le _⟩ hc.i (hc.c _) rfl (Nat.le_of_ble_eq_true rfl) rfl rfl dX6_resting_32 (fun H locs Z => ?_)
    obtain ⟨h_7, hT⟩ := mx_chk hT
    refine lv_idiv hx hb dX6_resting_35 h_7 ?_
    cases hT
    exact W.iret hx hb hr (fun t ht hW => mx_end Z t ht _) Z.2.2.2 dX6_resting_36
  · replace hT := mx_f hT h_4
    refine lv_iconst (v := (0 : Int32)) hx hb dX6_resting_17 (by decide) ?_
    refine lv_goto (tgt := 36) hx hb dX6_resting_18 (by decide) ?_
    cases hT
    exact W.iret hx hb hr (fun t ht hW => mx_end Z t ht _) Z.2.2.2 dX6_resting_36
/-! PeatRailwayModel.segmentNow -/
def x6_segmentNow (x1 : Int32) (x2 : Int32) (G : mM) : Option Int32 :=
  if x2 = 0 then
    (x6_seg x1 x2 G).bind fun q_2 =>
    some (q_2)
  else
    if x2 = 1 then
      (x6_seg x1 x2 G).bind fun q_4 =>
      some (q_4)
    else
      if x2 = 2 then
        (x6_seg x1 x2 G).bind fun q_6 =>
        some (q_6)
      else
        if x2 = 3 then
          (x6_trainsIn x1 G).bind fun q_8 =>
          some (q_8)
        else
          if x2 = 4 then
            (x6_weightIn x1 G).bind fun q_10 =>
            some (q_10)
          else
            if x2 = 5 then
              (x6_room x1 G).bind fun q_12 =>
              (x6_trainsIn x1 G).bind fun q_13 =>
              some (q_12 - q_13)
            else
              (x6_resting x1 G).bind fun q_14 =>
              some (q_14)
theorem hd6_segmentNow : yX6_segmentNow.cls = RX6 ∧ yX6_segmentNow.cls ≠ "java/lang/invoke/MethodHandle" ∧ yX6_segmentNow.cls ≠ "java/lang/invoke/VarHandle" ∧ (parseMethodDescriptor yX6_segmentNow.desc).map (fun d => d.parameters.length) = some 2 := by decide +kernel
set_option maxHeartbeats 4000000 in
set_option maxRecDepth 100000 in
theorem c6_segmentNow (l : Launch) (E : mE) (hJ : mJ E) (hc : mMo E 246) (x1 : Int32) (x2 : Int32) (G : mM) (q : Int32) (hT : x6_segmentNow x1 x2 G = some q) : mMet l E yX6_segmentNow cX6_segmentNow 3 (some .int) 3 66 [.ref (mad E (246)), .int (x1), .int (x2)] G (some (.int q)) G := by
  refine Met.ofW (cc := cX6_segmentNow) (maxL := 3) (ret := (some .int)) (by decide) rfl ?_
  intro p e s m args below meth cd s₁ B hml hv
  obtain ⟨rfl, hP, hK, hS⟩ := hv
  have X := mx_entry (own := RX6) B hml hK hJ hS rfl
  have hx := X.1
  have hb := X.2.1
  have hown := X.2.2.2.1
  have hts := X.2.2.2.2.1
  have hr := B.returns
  have hlocks := B.notSynchronized
  have hR : 3 ≤ (headSpec (mWs yX6_segmentNow cX6_segmentNow 3 (some .int)) ({ frames := 3, cells := 0, slots := 0, locals := 66 })).room.frames ∧ 66 ≤ (headSpec (mWs yX6_segmentNow cX6_segmentNow 3 (some .int)) ({ frames := 3, cells := 0, slots := 0, locals := 66 })).room.locals := ⟨Nat.le_refl _, Nat.le_refl _⟩
  have Z : mZ E s.heap s.heap [] G := ⟨hP, va_S.rf⟩
  have hl := lv_entry ([.ref (mad E (246)), .int (x1), .int (x2)]) (n := 3) (Nat.le_of_ble_eq_true rfl)
  rw [lg_entry_eq]
  generalize (lg_sl ([.ref (mad E (246)), .int (x1), .int (x2)]) ++ List.replicate (3 - (lg_sl ([.ref (mad E (246)), .int (x1), .int (x2)])).length) Slot.unset).toArray = ls at hl ⊢
  have hl : lv_has ls 3 [(0, .ref (mad E (246))), (1, .int (x1)), (2, .int (x2))] := hl
  unfold x6_segmentNow at hT
  refine lv_iload_n hx hb dX6_segmentNow_0 rfl (lv_at hl 2 rfl) ?_
  by_cases h_1 : x2 = 0
  · replace hT := mx_t hT h_1
    refine lv_tableIn (tgt := 40) hx hb dX6_segmentNow_1 (by rw [h_1]; decide) (by rw [h_1]; decide) (by rw [h_1]; rfl) (by decide) ?_
    refine lv_aload_n hx hb dX6_segmentNow_40 rfl (lv_at hl 0 rfl) ?_
    refine lv_iload_n hx hb dX6_segmentNow_41 rfl (lv_at hl 1 rfl) ?_
    refine lv_iload_n hx hb dX6_segmentNow_42 rfl (lv_at hl 2 rfl) ?_
    obtain ⟨q_2, h_q_2, hT⟩ := mx_bind hT
    refine mx_callV (As := [.int (x1), .int (x2)]) (rest := []) (st1 := [.int (q_2)]) (C := RX6) (T := TX6) (N := 11) (ci := 6) X Z hl.1 (c6_seg l E hJ hc _ _ _ _ h_q_2) wd_21_23 wd_22_0 wd_22_1 wd_1_5 wd_22_2 hd6_seg ⟨Nat.le_trans (by decide) hR.1, Nat.le_trans (by decide) hR.2⟩ ⟨Nat.zero_le _, Nat.zero_le _⟩ hc.i (hc.c _) rfl (Nat.le_of_ble_eq_true rfl) rfl rfl dX6_segmentNow_43 (fun H locs Z => ?_)
    cases hT
    exact W.iret hx hb hr (fun t ht hW => mx_end Z t ht _) Z.2.2.2 dX6_segmentNow_46
  · replace hT := mx_f hT h_1
    by_cases h_3 : x2 = 1
    · replace hT := mx_t hT h_3
      refine lv_tableIn (tgt := 40) hx hb dX6_segmentNow_1 (by rw [h_3]; decide) (by rw [h_3]; decide) (by rw [h_3]; rfl) (by decide) ?_
      refine lv_aload_n hx hb dX6_segmentNow_40 rfl (lv_at hl 0 rfl) ?_
      refine lv_iload_n hx hb dX6_segmentNow_41 rfl (lv_at hl 1 rfl) ?_
      refine lv_iload_n hx hb dX6_segmentNow_42 rfl (lv_at hl 2 rfl) ?_
      obtain ⟨q_4, h_q_4, hT⟩ := mx_bind hT
      refine mx_callV (As := [.int (x1), .int (x2)]) (rest := []) (st1 := [.int (q_4)]) (C := RX6) (T := TX6) (N := 11) (ci := 6) X Z hl.1 (c6_seg l E hJ hc _ _ _ _ h_q_4) wd_21_23 wd_22_0 wd_22_1 wd_1_5 wd_22_2 hd6_seg ⟨Nat.le_trans (by decide) hR.1, Nat.le_trans (by decide) hR.2⟩ ⟨Nat.zero_le _, Nat.zero_le _⟩ hc.i (hc.c _) rfl (Nat.le_of_ble_eq_true rfl) rfl rfl dX6_segmentNow_43 (fun H locs Z => ?_)
      cases hT
      exact W.iret hx hb hr (fun t ht hW => mx_end Z t ht _) Z.2.2.2 dX6_segmentNow_46
    · replace hT := mx_f hT h_3
      by_cases h_5 : x2 = 2
      · replace hT := mx_t hT h_5
        refine lv_tableIn (tgt := 40) hx hb dX6_segmentNow_1 (by rw [h_5]; decide) (by rw [h_5]; decide) (by rw [h_5]; rfl) (by decide) ?_
        refine lv_aload_n hx hb dX6_segmentNow_40 rfl (lv_at hl 0 rfl) ?_
        refine lv_iload_n hx hb dX6_segmentNow_41 rfl (lv_at hl 1 rfl) ?_
        refine lv_iload_n hx hb dX6_segmentNow_42 rfl (lv_at hl 2 rfl) ?_
        obtain ⟨q_6, h_q_6, hT⟩ := mx_bind hT
        refine mx_callV (As := [.int (x1), .int (x2)]) (rest := []) (st1 := [.int (q_6)]) (C := RX6) (T := TX6) (N := 11) (ci := 6) X Z hl.1 (c6_seg l E hJ hc _ _ _ _ h_q_6) wd_21_23 wd_22_0 wd_22_1 wd_1_5 wd_22_2 hd6_seg ⟨Nat.le_trans (by decide) hR.1, Nat.le_trans (by decide) hR.2⟩ ⟨Nat.zero_le _, Nat.zero_le _⟩ hc.i (hc.c _) rfl (Nat.le_of_ble_eq_true rfl) rfl rfl dX6_segmentNow_43 (fun H locs Z => ?_)
        cases hT
        exact W.iret hx hb hr (fun t ht hW => mx_end Z t ht _) Z.2.2.2 dX6_segmentNow_46
      · replace hT := mx_f hT h_5
        by_cases h_7 : x2 = 3
        · replace hT := mx_t hT h_7
          refine lv_tableIn (tgt := 47) hx hb dX6_segmentNow_1 (by rw [h_7]; decide) (by rw [h_7]; decide) (by rw [h_7]; rfl) (by decide) ?_
          refine lv_aload_n hx hb dX6_segmentNow_47 rfl (lv_at hl 0 rfl) ?_
          refine lv_iload_n hx hb dX6_segmentNow_48 rfl (lv_at hl 1 rfl) ?_
          obtain ⟨q_8, h_q_8, hT⟩ := mx_bind hT
          refine mx_callV (As := [.int (x1)]) (rest := []) (st1 := [.int (q_8)]) (C := RX6) (T := TX6) (N := 11) (ci := 6) X Z hl.1 (c6_trainsIn l E hJ hc _ _ _ h_q_8) wd_22_3 wd_22_4 wd_22_5 wd_1_5 wd_22_6 hd6_trainsIn ⟨Nat.le_trans (by decide) hR.1, Nat.le_trans (by decide) hR.2⟩ ⟨Nat.zero_le _, Nat.zero_le _⟩ hc.i (hc.c _) rfl (Nat.le_of_ble_eq_true rfl) rfl rfl dX6_segmentNow_49 (fun H locs Z => ?_)
          cases hT
          exact W.iret hx hb hr (fun t ht hW => mx_end Z t ht _) Z.2.2.2 dX6_segmentNow_52
        · replace hT := mx_f hT h_7
          by_cases h_9 : x2 = 4
          · replace hT := mx_t hT h_9
            refine lv_tableIn (tgt := 53) hx hb dX6_segmentNow_1 (by rw [h_9]; decide) (by rw [h_9]; decide) (by rw [h_9]; rfl) (by decide) ?_
            refine lv_aload_n hx hb dX6_segmentNow_53 rfl (lv_at hl 0 rfl) ?_
            refine lv_iload_n hx hb dX6_segmentNow_54 rfl (lv_at hl 1 rfl) ?_
            obtain ⟨q_10, h_q_10, hT⟩ := mx_bind hT
            refine mx_callV (As := [.int (x1)]) (rest := []) (st1 := [.int (q_10)]) (C := RX6) (T := TX6) (N := 11) (ci := 6) X Z hl.1 (c6_weightIn l E hJ hc _ _ _ h_q_10) wd_23_7 wd_23_8 wd_23_9 wd_1_5 wd_23_10 hd6_weightIn ⟨Nat.le_trans (by decide) hR.1, Nat.le_trans (by decide) hR.2⟩ ⟨Nat.zero_le _, Nat.zero_le _⟩ hc.i (hc.c _) rfl (Nat.le_of_ble_eq_true rfl) rfl rfl dX6_segmentNow_55 (fun H locs Z => ?_)
            cases hT
            exact W.iret hx hb hr (fun t ht hW => mx_end Z t ht _) Z.2.2.2 dX6_segmentNow_58
          · replace hT := mx_f hT h_9
            by_cases h_11 : x2 = 5
            · replace hT := mx_t hT h_11
              refine lv_tableIn (tgt := 59) hx hb dX6_segmentNow_1 (by rw [h_11]; decide) (by rw [h_11]; decide) (by rw [h_11]; rfl) (by decide) ?_
              refine lv_aload_n hx hb dX6_segmentNow_59 rfl (lv_at hl 0 rfl) ?_
              refine lv_iload_n hx hb dX6_segmentNow_60 rfl (lv_at hl 1 rfl) ?_
              obtain ⟨q_12, h_q_12, hT⟩ := mx_bind hT
              refine mx_callV (As := [.int (x1)]) (rest := []) (st1 := [.int (q_12)]) (C := RX6) (T := TX6) (N := 11) (ci := 6) X Z hl.1 (c6_room l E hJ hc _ _ _ h_q_12) wd_22_7 wd_22_8 wd_22_9 wd_1_5 wd_22_10 hd6_room ⟨Nat.le_trans (by decide) hR.1, Nat.le_trans (by decide) hR.2⟩ ⟨Nat.zero_le _, Nat.zero_le _⟩ hc.i (hc.c _) rfl (Nat.le_of_ble_eq_true rfl) rfl rfl dX6_segmentNow_61 (fun H locs Z => ?_)
              refine lv_aload_n hx hb dX6_segmentNow_64 rfl (lv_at hl 0 rfl) ?_
              refine lv_iload_n hx hb dX6_segmentNow_65 rfl (lv_at hl 1 rfl) ?_
              obtain ⟨q_13, h_q_13, hT⟩ := mx_bind hT
              refine mx_callV (As := [.int (x1)]) (rest := [.int (q_12)]) (st1 := [.int (q_13), .int (q_12)]) (C := RX6) (T := TX6) (N := 11) (ci := 6) X Z hl.1 (c6_trainsIn l E hJ hc _ _ _ h_q_13) wd_22_3 wd_22_4 wd_22_5 wd_1_5 wd_22_6 hd6_trainsIn ⟨Nat.le_trans (by decide) hR.1, Nat.le_trans (by decide) hR.2⟩ ⟨Nat.zero_le _, Nat.zero_le _⟩ hc.i (hc.c _) rfl (Nat.le_of_ble_eq_true rfl) rfl rfl dX6_segmentNow_66 (fun H locs Z => ?_)
              refine lv_isub hx hb dX6_segmentNow_69 ?_
              cases hT
              exact W.iret hx hb hr (fun t ht hW => mx_end Z t ht _) Z.2.2.2 dX6_segmentNow_70
            · replace hT := mx_f hT h_11
              refine lv_tableOut (tgt := 71) hx hb dX6_segmentNow_1 (mx_out (n := 5) (by decide) (fun k hk => by rcases (show k = 0 ∨ k = 1 ∨ k = 2 ∨ k = 3 ∨ k = 4 ∨ k = 5 by omega) with rfl | rfl | rfl | rfl | rfl | rfl <;> assumption)) (by decide) ?_
              refine lv_aload_n hx hb dX6_segmentNow_71 rfl (lv_at hl 0 rfl) ?_
              refine lv_iload_n hx hb dX6_segmentNow_72 rfl (lv_at hl 1 rfl) ?_
              obtain ⟨q_14, h_q_14, hT⟩ := mx_bind hT
              refine mx_callV (As := [.int (x1)]) (rest := []) (st1 := [.int (q_14)]) (C := RX6) (T := TX6) (N := 11) (ci := 6) X Z hl.1 (c6_resting l E hJ hc _ _ _ h_q_14) wd_26_12 wd_26_13 wd_26_14 wd_1_5 wd_26_15 hd6_resting ⟨Nat.le_trans (by decide) hR.1, Nat.le_trans (by decide) hR.2⟩ ⟨Nat.zero_le _, Nat.zero_le _⟩ hc.i (hc.c _) rfl (Nat.le_of_ble_eq_true rfl) rfl rfl dX6_segmentNow_73 (fun H locs Z => ?_)
              cases hT
              exact W.iret hx hb hr (fun t ht hW => mx_end Z t ht _) Z.2.2.2 dX6_segmentNow_76
/-! PeatRailwayModel.segment -/
def x6_segment (x1 : Int32) (x2 : Int32) (G : mM) : Option Int32 :=
  (x6_isSegment x1 G).bind fun q_1 =>
  if q_1 = 0 then
    some ((-2 : Int32))
  else
    (x6_within x2 ((0 : Int32)) ((6 : Int32)) G).bind fun q_3 =>
    if q_3 = 0 then
      some ((-2 : Int32))
    else
      (x6_segmentNow x1 x2 G).bind fun q_5 =>
      some (q_5)
theorem hd6_segment : yX6_segment.cls = RX6 ∧ yX6_segment.cls ≠ "java/lang/invoke/MethodHandle" ∧ yX6_segment.cls ≠ "java/lang/invoke/VarHandle" ∧ (parseMethodDescriptor yX6_segment.desc).map (fun d => d.parameters.length) = some 2 := by decide +kernel
set_option maxHeartbeats 4000000 in
set_option maxRecDepth 100000 in
theorem c6_segment (l : Launch) (E : mE) (hJ : mJ E) (hc : mMo E 246) (x1 : Int32) (x2 : Int32) (G : mM) (q : Int32) (hT : x6_segment x1 x2 G = some q) : mMet l E yX6_segment cX6_segment 3 (some .int) 4 88 [.ref (mad E (246)), .int (x1), .int (x2)] G (some (.int q)) G := by
  refine Met.ofW (cc := cX6_segment) (maxL := 3) (ret := (some .int)) (by decide) rfl ?_
  intro p e s m args below meth cd s₁ B hml hv
  obtain ⟨rfl, hP, hK, hS⟩ := hv
  have X := mx_entry (own := RX6) B hml hK hJ hS rfl
  have hx := X.1
  have hb := X.2.1
  have hown := X.2.2.2.1
  have hts := X.2.2.2.2.1
  have hr := B.returns
  have hlocks := B.notSynchronized
  have hR : 4 ≤ (headSpec (mWs yX6_segment cX6_segment 3 (some .int)) ({ frames := 4, cells := 0, slots := 0, locals := 88 })).room.frames ∧ 88 ≤ (headSpec (mWs yX6_segment cX6_segment 3 (some .int)) ({ frames := 4, cells := 0, slots := 0, locals := 88 })).room.locals := ⟨Nat.le_refl _, Nat.le_refl _⟩
  have Z : mZ E s.heap s.heap [] G := ⟨hP, va_S.rf⟩
  have hl := lv_entry ([.ref (mad E (246)), .int (x1), .int (x2)]) (n := 3) (Nat.le_of_ble_eq_true rfl)
  rw [lg_entry_eq]
  generalize (lg_sl ([.ref (mad E (246)), .int (x1), .int (x2)]) ++ List.replicate (3 - (lg_sl ([.ref (mad E (246)), .int (x1), .int (x2)])).length) Slot.unset).toArray = ls at hl ⊢
  have hl : lv_has ls 3 [(0, .ref (mad E (246))), (1, .int (x1)), (2, .int (x2))] := hl
  unfold x6_segment at hT
  refine lv_aload_n hx hb dX6_segment_0 rfl (lv_at hl 0 rfl) ?_
  refine lv_iload_n hx hb dX6_segment_1 rfl (lv_at hl 1 rfl) ?_
  obtain ⟨q_1, h_q_1, hT⟩ := mx_bind hT
  refine mx_callV (As := [.int (x1)]) (rest := []) (st1 := [.int (q_1)]) (C := RX6) (T := TX6) (N := 11) (ci := 6) X Z hl.1 (c6_isSegment l E hJ hc _ _ _ h_q_1) wd_26_4 wd_26_5 wd_26_6 wd_1_5 wd_26_7 hd6_isSegment ⟨Nat.le_trans (by decide) hR.1, Nat.le_trans (by decide) hR.2⟩ ⟨Nat.zero_le _, Nat.zero_le _⟩ hc.i (hc.c _) rfl (Nat.le_of_ble_eq_true rfl) rfl rfl dX6_segment_2 (fun H locs Z => ?_)
  refine lv_if_eq (tgt := 27) hx hb dX6_segment_5 (by decide) (fun h_2 => ?_) (fun h_2 => ?_)
  · replace hT := mx_t hT h_2
    refine lv_bipush (v := (-2 : Int32)) hx hb dX6_segment_27 (by decide) ?_
    cases hT
    exact W.iret hx hb hr (fun t ht hW => mx_end Z t ht _) Z.2.2.2 dX6_segment_29
  · replace hT := mx_f hT h_2
    refine lv_iload_n hx hb dX6_segment_8 rfl (lv_at hl 2 rfl) ?_
    refine lv_iconst (v := (0 : Int32)) hx hb dX6_segment_9 (by decide) ?_
    refine lv_bipush (v := (6 : Int32)) hx hb dX6_segment_10 (by decide) ?_
    obtain ⟨q_3, h_q_3, hT⟩ := mx_bind hT
    refine mx_callS (As := [.int (x2), .int ((0 : Int32)), .int ((6 : Int32))]) (rest := []) (st1 := [.int (q_3)]) X Z hl.1 (c6_within l E hJ _ _ _ _ _ h_q_3) wd_9_1 wd_9_2 wd_1_5 wd_9_3 hd6_within ⟨Nat.le_trans (by decide) hR.1, Nat.le_trans (by decide) hR.2⟩ ⟨Nat.zero_le _, Nat.zero_le _⟩ (Nat.le_of_ble_eq_true rfl) rfl rfl dX6_segment_12 (fun H locs Z => ?_)
    refine lv_if_eq (tgt := 27) hx hb dX6_segment_15 (by decide) (fun h_4 => ?_) (fun h_4 => ?_)
    · replace hT := mx_t hT h_4
      refine lv_bipush (v := (-2 : Int32)) hx hb dX6_segment_27 (by decide) ?_
      cases hT
      exact W.iret hx hb hr (fun t ht hW => mx_end Z t ht _) Z.2.2.2 dX6_segment_29
    · replace hT := mx_f hT h_4
      refine lv_aload_n hx hb dX6_segment_18 rfl (lv_at hl 0 rfl) ?_
      refine lv_iload_n hx hb dX6_segment_19 rfl (lv_at hl 1 rfl) ?_
      refine lv_iload_n hx hb dX6_segment_20 rfl (lv_at hl 2 rfl) ?_
      obtain ⟨q_5, h_q_5, hT⟩ := mx_bind hT
      refine mx_callV (As := [.int (x1), .int (x2)]) (rest := []) (st1 := [.int (q_5)]) (C := RX6) (T := TX6) (N := 11) (ci := 6) X Z hl.1 (c6_segmentNow l E hJ hc _ _ _ _ h_q_5) wd_26_8 wd_26_9 wd_26_10 wd_1_5 wd_26_11 hd6_segmentNow ⟨Nat.le_trans (by decide) hR.1, Nat.le_trans (by decide) hR.2⟩ ⟨Nat.zero_le _, Nat.zero_le _⟩ hc.i (hc.c _) rfl (Nat.le_of_ble_eq_true rfl) rfl rfl dX6_segment_21 (fun H locs Z => ?_)
      refine lv_goto (tgt := 29) hx hb dX6_segment_24 (by decide) ?_
      cases hT
      exact W.iret hx hb hr (fun t ht hW => mx_end Z t ht _) Z.2.2.2 dX6_segment_29
/-! PeatRailwayModel.trainNow -/
def x6_trainNow (x1 : Int32) (x2 : Int32) (G : mM) : Option Int32 :=
  if x2 = ((9 : Int32)) then
    (x6_weight x1 G).bind fun q_3 =>
    some (q_3)
  else
    (x6_of x1 x2 G).bind fun q_2 =>
    some (q_2)
theorem hd6_trainNow : yX6_trainNow.cls = RX6 ∧ yX6_trainNow.cls ≠ "java/lang/invoke/MethodHandle" ∧ yX6_trainNow.cls ≠ "java/lang/invoke/VarHandle" ∧ (parseMethodDescriptor yX6_trainNow.desc).map (fun d => d.parameters.length) = some 2 := by decide +kernel
set_option maxHeartbeats 4000000 in
set_option maxRecDepth 100000 in
theorem c6_trainNow (l : Launch) (E : mE) (hJ : mJ E) (hc : mMo E 246) (x1 : Int32) (x2 : Int32) (G : mM) (q : Int32) (hT : x6_trainNow x1 x2 G = some q) : mMet l E yX6_trainNow cX6_trainNow 3 (some .int) 2 43 [.ref (mad E (246)), .int (x1), .int (x2)] G (some (.int q)) G := by
  refine Met.ofW (cc := cX6_trainNow) (maxL := 3) (ret := (some .int)) (by decide) rfl ?_
  intro p e s m args below meth cd s₁ B hml hv
  obtain ⟨rfl, hP, hK, hS⟩ := hv
  have X := mx_entry (own := RX6) B hml hK hJ hS rfl
  have hx := X.1
  have hb := X.2.1
  have hown := X.2.2.2.1
  have hts := X.2.2.2.2.1
  have hr := B.returns
  have hlocks := B.notSynchronized
  have hR : 2 ≤ (headSpec (mWs yX6_trainNow cX6_trainNow 3 (some .int)) ({ frames := 2, cells := 0, slots := 0, locals := 43 })).room.frames ∧ 43 ≤ (headSpec (mWs yX6_trainNow cX6_trainNow 3 (some .int)) ({ frames := 2, cells := 0, slots := 0, locals := 43 })).room.locals := ⟨Nat.le_refl _, Nat.le_refl _⟩
  have Z : mZ E s.heap s.heap [] G := ⟨hP, va_S.rf⟩
  have hl := lv_entry ([.ref (mad E (246)), .int (x1), .int (x2)]) (n := 3) (Nat.le_of_ble_eq_true rfl)
  rw [lg_entry_eq]
  generalize (lg_sl ([.ref (mad E (246)), .int (x1), .int (x2)]) ++ List.replicate (3 - (lg_sl ([.ref (mad E (246)), .int (x1), .int (x2)])).length) Slot.unset).toArray = ls at hl ⊢
  have hl : lv_has ls 3 [(0, .ref (mad E (246))), (1, .int (x1)), (2, .int (x2))] := hl
  unfold x6_trainNow at hT
  refine lv_iload_n hx hb dX6_trainNow_0 rfl (lv_at hl 2 rfl) ?_
  refine lv_bipush (v := (9 : Int32)) hx hb dX6_trainNow_1 (by decide) ?_
  refine lv_icmp_ne (tgt := 14) hx hb dX6_trainNow_3 (by decide) (fun h_1 => ?_) (fun h_1 => ?_)
  · replace hT := mx_f hT h_1
    refine lv_aload_n hx hb dX6_trainNow_14 rfl (lv_at hl 0 rfl) ?_
    refine lv_iload_n hx hb dX6_trainNow_15 rfl (lv_at hl 1 rfl) ?_
    refine lv_iload_n hx hb dX6_trainNow_16 rfl (lv_at hl 2 rfl) ?_
    obtain ⟨q_2, h_q_2, hT⟩ := mx_bind hT
    refine mx_callV (As := [.int (x1), .int (x2)]) (rest := []) (st1 := [.int (q_2)]) (C := RX6) (T := TX6) (N := 11) (ci := 6) X Z hl.1 (c6_of l E hJ hc _ _ _ _ h_q_2) wd_13_11 wd_13_12 wd_13_13 wd_1_5 wd_13_14 hd6_of ⟨Nat.le_trans (by decide) hR.1, Nat.le_trans (by decide) hR.2⟩ ⟨Nat.zero_le _, Nat.zero_le _⟩ hc.i (hc.c _) rfl (Nat.le_of_ble_eq_true rfl) rfl rfl dX6_trainNow_17 (fun H locs Z => ?_)
    cases hT
    exact W.iret hx hb hr (fun t ht hW => mx_end Z t ht _) Z.2.2.2 dX6_trainNow_20
  · replace hT := mx_t hT h_1
    refine lv_aload_n hx hb dX6_trainNow_6 rfl (lv_at hl 0 rfl) ?_
    refine lv_iload_n hx hb dX6_trainNow_7 rfl (lv_at hl 1 rfl) ?_
    obtain ⟨q_3, h_q_3, hT⟩ := mx_bind hT
    refine mx_callV (As := [.int (x1)]) (rest := []) (st1 := [.int (q_3)]) (C := RX6) (T := TX6) (N := 11) (ci := 6) X Z hl.1 (c6_weight l E hJ hc _ _ _ h_q_3) wd_23_11 wd_23_12 wd_23_13 wd_1_5 wd_23_14 hd6_weight ⟨Nat.le_trans (by decide) hR.1, Nat.le_trans (by decide) hR.2⟩ ⟨Nat.zero_le _, Nat.zero_le _⟩ hc.i (hc.c _) rfl (Nat.le_of_ble_eq_true rfl) rfl rfl dX6_trainNow_8 (fun H locs Z => ?_)
    refine lv_goto (tgt := 20) hx hb dX6_trainNow_11 (by decide) ?_
    cases hT
    exact W.iret hx hb hr (fun t ht hW => mx_end Z t ht _) Z.2.2.2 dX6_trainNow_20
/-! PeatRailwayModel.train -/
def x6_train (x1 : Int32) (x2 : Int32) (G : mM) : Option Int32 :=
  (x6_isTrain x1 G).bind fun q_1 =>
  if q_1 = 0 then
    some ((-2 : Int32))
  else
    (x6_within x2 ((0 : Int32)) ((9 : Int32)) G).bind fun q_3 =>
    if q_3 = 0 then
      some ((-2 : Int32))
    else
      (x6_trainNow x1 x2 G).bind fun q_5 =>
      some (q_5)
theorem hd6_train : yX6_train.cls = RX6 ∧ yX6_train.cls ≠ "java/lang/invoke/MethodHandle" ∧ yX6_train.cls ≠ "java/lang/invoke/VarHandle" ∧ (parseMethodDescriptor yX6_train.desc).map (fun d => d.parameters.length) = some 2 := by decide +kernel
set_option maxHeartbeats 4000000 in
set_option maxRecDepth 100000 in
theorem c6_train (l : Launch) (E : mE) (hJ : mJ E) (hc : mMo E 246) (x1 : Int32) (x2 : Int32) (G : mM) (q : Int32) (hT : x6_train x1 x2 G = some q) : mMet l E yX6_train cX6_train 3 (some .int) 3 65 [.ref (mad E (246)), .int (x1), .int (x2)] G (some (.int q)) G := by
  refine Met.ofW (cc := cX6_train) (maxL := 3) (ret := (some .int)) (by decide) rfl ?_
  intro p e s m args below meth cd s₁ B hml hv
  obtain ⟨rfl, hP, hK, hS⟩ := hv
  have X := mx_entry (own := RX6) B hml hK hJ hS rfl
  have hx := X.1
  have hb := X.2.1
  have hown := X.2.2.2.1
  have hts := X.2.2.2.2.1
  have hr := B.returns
  have hlocks := B.notSynchronized
  have hR : 3 ≤ (headSpec (mWs yX6_train cX6_train 3 (some .int)) ({ frames := 3, cells := 0, slots := 0, locals := 65 })).room.frames ∧ 65 ≤ (headSpec (mWs yX6_train cX6_train 3 (some .int)) ({ frames := 3, cells := 0, slots := 0, locals := 65 })).room.locals := ⟨Nat.le_refl _, Nat.le_refl _⟩
  have Z : mZ E s.heap s.heap [] G := ⟨hP, va_S.rf⟩
  have hl := lv_entry ([.ref (mad E (246)), .int (x1), .int (x2)]) (n := 3) (Nat.le_of_ble_eq_true rfl)
  rw [lg_entry_eq]
  generalize (lg_sl ([.ref (mad E (246)), .int (x1), .int (x2)]) ++ List.replicate (3 - (lg_sl ([.ref (mad E (246)), .int (x1), .int (x2)])).length) Slot.unset).toArray = ls at hl ⊢
  have hl : lv_has ls 3 [(0, .ref (mad E (246))), (1, .int (x1)), (2, .int (x2))] := hl
  unfold x6_train at hT
  refine lv_aload_n hx hb dX6_train_0 rfl (lv_at hl 0 rfl) ?_
  refine lv_iload_n hx hb dX6_train_1 rfl (lv_at hl 1 rfl) ?_
  obtain ⟨q_1, h_q_1, hT⟩ := mx_bind hT
  refine mx_callV (As := [.int (x1)]) (rest := []) (st1 := [.int (q_1)]) (C := RX6) (T := TX6) (N := 11) (ci := 6) X Z hl.1 (c6_isTrain l E hJ hc _ _ _ h_q_1) wd_16_12 wd_16_13 wd_16_14 wd_1_5 wd_16_15 hd6_isTrain ⟨Nat.le_trans (by decide) hR.1, Nat.le_trans (by decide) hR.2⟩ ⟨Nat.zero_le _, Nat.zero_le _⟩ hc.i (hc.c _) rfl (Nat.le_of_ble_eq_true rfl) rfl rfl dX6_train_2 (fun H locs Z => ?_)
  refine lv_if_eq (tgt := 27) hx hb dX6_train_5 (by decide) (fun h_2 => ?_) (fun h_2 => ?_)
  · replace hT := mx_t hT h_2
    refine lv_bipush (v := (-2 : Int32)) hx hb dX6_train_27 (by decide) ?_
    cases hT
    exact W.iret hx hb hr (fun t ht hW => mx_end Z t ht _) Z.2.2.2 dX6_train_29
  · replace hT := mx_f hT h_2
    refine lv_iload_n hx hb dX6_train_8 rfl (lv_at hl 2 rfl) ?_
    refine lv_iconst (v := (0 : Int32)) hx hb dX6_train_9 (by decide) ?_
    refine lv_bipush (v := (9 : Int32)) hx hb dX6_train_10 (by decide) ?_
    obtain ⟨q_3, h_q_3, hT⟩ := mx_bind hT
    refine mx_callS (As := [.int (x2), .int ((0 : Int32)), .int ((9 : Int32))]) (rest := []) (st1 := [.int (q_3)]) X Z hl.1 (c6_within l E hJ _ _ _ _ _ h_q_3) wd_9_1 wd_9_2 wd_1_5 wd_9_3 hd6_within ⟨Nat.le_trans (by decide) hR.1, Nat.le_trans (by decide) hR.2⟩ ⟨Nat.zero_le _, Nat.zero_le _⟩ (Nat.le_of_ble_eq_true rfl) rfl rfl dX6_train_12 (fun H locs Z => ?_)
    refine lv_if_eq (tgt := 27) hx hb dX6_train_15 (by decide) (fun h_4 => ?_) (fun h_4 => ?_)
    · replace hT := mx_t hT h_4
      refine lv_bipush (v := (-2 : Int32)) hx hb dX6_train_27 (by decide) ?_
      cases hT
      exact W.iret hx hb hr (fun t ht hW => mx_end Z t ht _) Z.2.2.2 dX6_train_29
    · replace hT := mx_f hT h_4
      refine lv_aload_n hx hb dX6_train_18 rfl (lv_at hl 0 rfl) ?_
      refine lv_iload_n hx hb dX6_train_19 rfl (lv_at hl 1 rfl) ?_
      refine lv_iload_n hx hb dX6_train_20 rfl (lv_at hl 2 rfl) ?_
      obtain ⟨q_5, h_q_5, hT⟩ := mx_bind hT
      refine mx_callV (As := [.int (x1), .int (x2)]) (rest := []) (st1 := [.int (q_5)]) (C := RX6) (T := TX6) (N := 11) (ci := 6) X Z hl.1 (c6_trainNow l E hJ hc _ _ _ _ h_q_5) wd_27_8 wd_27_9 wd_27_10 wd_1_5 wd_27_11 hd6_trainNow ⟨Nat.le_trans (by decide) hR.1, Nat.le_trans (by decide) hR.2⟩ ⟨Nat.zero_le _, Nat.zero_le _⟩ hc.i (hc.c _) rfl (Nat.le_of_ble_eq_true rfl) rfl rfl dX6_train_21 (fun H locs Z => ?_)
      refine lv_goto (tgt := 29) hx hb dX6_train_24 (by decide) ?_
      cases hT
      exact W.iret hx hb hr (fun t ht hW => mx_end Z t ht _) Z.2.2.2 dX6_train_29
/-! PeatRailwayModel.why -/
def x6_why (x1 : Int32) (G : mM) : Option Int32 :=
  (x6_isTrain x1 G).bind fun q_1 =>
  if q_1 = 0 then
    some ((-2 : Int32))
  else
    (x6_reason x1 G).bind fun q_3 =>
    some (q_3)
theorem hd6_why : yX6_why.cls = RX6 ∧ yX6_why.cls ≠ "java/lang/invoke/MethodHandle" ∧ yX6_why.cls ≠ "java/lang/invoke/VarHandle" ∧ (parseMethodDescriptor yX6_why.desc).map (fun d => d.parameters.length) = some 1 := by decide +kernel
set_option maxHeartbeats 4000000 in
set_option maxRecDepth 100000 in
theorem c6_why (l : Launch) (E : mE) (hJ : mJ E) (hc : mMo E 246) (x1 : Int32) (G : mM) (q : Int32) (hT : x6_why x1 G = some q) : mMet l E yX6_why cX6_why 2 (some .int) 4 91 [.ref (mad E (246)), .int (x1)] G (some (.int q)) G := by
  refine Met.ofW (cc := cX6_why) (maxL := 2) (ret := (some .int)) (by decide) rfl ?_
  intro p e s m args below meth cd s₁ B hml hv
  obtain ⟨rfl, hP, hK, hS⟩ := hv
  have X := mx_entry (own := RX6) B hml hK hJ hS rfl
  have hx := X.1
  have hb := X.2.1
  have hown := X.2.2.2.1
  have hts := X.2.2.2.2.1
  have hr := B.returns
  have hlocks := B.notSynchronized
  have hR : 4 ≤ (headSpec (mWs yX6_why cX6_why 2 (some .int)) ({ frames := 4, cells := 0, slots := 0, locals := 91 })).room.frames ∧ 91 ≤ (headSpec (mWs yX6_why cX6_why 2 (some .int)) ({ frames := 4, cells := 0, slots := 0, locals := 91 })).room.locals := ⟨Nat.le_refl _, Nat.le_refl _⟩
  have Z : mZ E s.heap s.heap [] G := ⟨hP, va_S.rf⟩
  have hl := lv_entry ([.ref (mad E (246)), .int (x1)]) (n := 2) (Nat.le_of_ble_eq_true rfl)
  rw [lg_entry_eq]
  generalize (lg_sl ([.ref (mad E (246)), .int (x1)]) ++ List.replicate (2 - (lg_sl ([.ref (mad E (246)), .int (x1)])).length) Slot.unset).toArray = ls at hl ⊢
  have hl : lv_has ls 2 [(0, .ref (mad E (246))), (1, .int (x1))] := hl
  unfold x6_why at hT
  refine lv_aload_n hx hb dX6_why_0 rfl (lv_at hl 0 rfl) ?_
  refine lv_iload_n hx hb dX6_why_1 rfl (lv_at hl 1 rfl) ?_
  obtain ⟨q_1, h_q_1, hT⟩ := mx_bind hT
  refine mx_callV (As := [.int (x1)]) (rest := []) (st1 := [.int (q_1)]) (C := RX6) (T := TX6) (N := 11) (ci := 6) X Z hl.1 (c6_isTrain l E hJ hc _ _ _ h_q_1) wd_16_12 wd_16_13 wd_16_14 wd_1_5 wd_16_15 hd6_isTrain ⟨Nat.le_trans (by decide) hR.1, Nat.le_trans (by decide) hR.2⟩ ⟨Nat.zero_le _, Nat.zero_le _⟩ hc.i (hc.c _) rfl (Nat.le_of_ble_eq_true rfl) rfl rfl dX6_why_2 (fun H locs Z => ?_)
  refine lv_if_eq (tgt := 16) hx hb dX6_why_5 (by decide) (fun h_2 => ?_) (fun h_2 => ?_)
  · replace hT := mx_t hT h_2
    refine lv_bipush (v := (-2 : Int32)) hx hb dX6_why_16 (by decide) ?_
    cases hT
    exact W.iret hx hb hr (fun t ht hW => mx_end Z t ht _) Z.2.2.2 dX6_why_18
  · replace hT := mx_f hT h_2
    refine lv_aload_n hx hb dX6_why_8 rfl (lv_at hl 0 rfl) ?_
    refine lv_iload_n hx hb dX6_why_9 rfl (lv_at hl 1 rfl) ?_
    obtain ⟨q_3, h_q_3, hT⟩ := mx_bind hT
    refine mx_callV (As := [.int (x1)]) (rest := []) (st1 := [.int (q_3)]) (C := RX6) (T := TX6) (N := 11) (ci := 6) X Z hl.1 (c6_reason l E hJ hc _ _ _ h_q_3) wd_21_15 wd_21_16 wd_21_17 wd_1_5 wd_21_18 hd6_reason ⟨Nat.le_trans (by decide) hR.1, Nat.le_trans (by decide) hR.2⟩ ⟨Nat.zero_le _, Nat.zero_le _⟩ hc.i (hc.c _) rfl (Nat.le_of_ble_eq_true rfl) rfl rfl dX6_why_10 (fun H locs Z => ?_)
    refine lv_goto (tgt := 18) hx hb dX6_why_13 (by decide) ?_
    cases hT
    exact W.iret hx hb hr (fun t ht hW => mx_end Z t ht _) Z.2.2.2 dX6_why_18
/-! PeatRailwayModel.accountNow -/
def x6_accountNow (x1 : Int32) (G : mM) : Option Int32 :=
  if x1 = 0 then
    (x6_other ((3 : Int32)) G).bind fun q_2 =>
    some (q_2)
  else
    if x1 = 1 then
      (x6_other ((4 : Int32)) G).bind fun q_4 =>
      some (q_4)
    else
      if x1 = 2 then
        (x6_peatInTrains G).bind fun q_6 =>
        some (q_6)
      else
        if x1 = 3 then
          (x6_other ((5 : Int32)) G).bind fun q_8 =>
          some (q_8)
        else
          (x6_other ((6 : Int32)) G).bind fun q_9 =>
          some (q_9)
theorem hd6_accountNow : yX6_accountNow.cls = RX6 ∧ yX6_accountNow.cls ≠ "java/lang/invoke/MethodHandle" ∧ yX6_accountNow.cls ≠ "java/lang/invoke/VarHandle" ∧ (parseMethodDescriptor yX6_accountNow.desc).map (fun d => d.parameters.length) = some 1 := by decide +kernel
set_option maxHeartbeats 4000000 in
set_option maxRecDepth 100000 in
theorem c6_accountNow (l : Launch) (E : mE) (hJ : mJ E) (hc : mMo E 246) (x1 : Int32) (G : mM) (q : Int32) (hT : x6_accountNow x1 G = some q) : mMet l E yX6_accountNow cX6_accountNow 2 (some .int) 2 44 [.ref (mad E (246)), .int (x1)] G (some (.int q)) G := by
  refine Met.ofW (cc := cX6_accountNow) (maxL := 2) (ret := (some .int)) (by decide) rfl ?_
  intro p e s m args below meth cd s₁ B hml hv
  obtain ⟨rfl, hP, hK, hS⟩ := hv
  have X := mx_entry (own := RX6) B hml hK hJ hS rfl
  have hx := X.1
  have hb := X.2.1
  have hown := X.2.2.2.1
  have hts := X.2.2.2.2.1
  have hr := B.returns
  have hlocks := B.notSynchronized
  have hR : 2 ≤ (headSpec (mWs yX6_accountNow cX6_accountNow 2 (some .int)) ({ frames := 2, cells := 0, slots := 0, locals := 44 })).room.frames ∧ 44 ≤ (headSpec (mWs yX6_accountNow cX6_accountNow 2 (some .int)) ({ frames := 2, cells := 0, slots := 0, locals := 44 })).room.locals := ⟨Nat.le_refl _, Nat.le_refl _⟩
  have Z : mZ E s.heap s.heap [] G := ⟨hP, va_S.rf⟩
  have hl := lv_entry ([.ref (mad E (246)), .int (x1)]) (n := 2) (Nat.le_of_ble_eq_true rfl)
  rw [lg_entry_eq]
  generalize (lg_sl ([.ref (mad E (246)), .int (x1)]) ++ List.replicate (2 - (lg_sl ([.ref (mad E (246)), .int (x1)])).length) Slot.unset).toArray = ls at hl ⊢
  have hl : lv_has ls 2 [(0, .ref (mad E (246))), (1, .int (x1))] := hl
  unfold x6_accountNow at hT
  refine lv_iload_n hx hb dX6_accountNow_0 rfl (lv_at hl 1 rfl) ?_
  by_cases h_1 : x1 = 0
  · replace hT := mx_t hT h_1
    refine lv_tableIn (tgt := 32) hx hb dX6_accountNow_1 (by rw [h_1]; decide) (by rw [h_1]; decide) (by rw [h_1]; rfl) (by decide) ?_
    refine lv_aload_n hx hb dX6_accountNow_32 rfl (lv_at hl 0 rfl) ?_
    refine lv_iconst (v := (3 : Int32)) hx hb dX6_accountNow_33 (by decide) ?_
    obtain ⟨q_2, h_q_2, hT⟩ := mx_bind hT
    refine mx_callV (As := [.int ((3 : Int32))]) (rest := []) (st1 := [.int (q_2)]) (C := RX6) (T := TX6) (N := 11) (ci := 6) X Z hl.1 (c6_other l E hJ hc _ _ _ h_q_2) wd_14_8 wd_14_9 wd_14_10 wd_1_5 wd_14_11 hd6_other ⟨Nat.le_trans (by decide) hR.1, Nat.le_trans (by decide) hR.2⟩ ⟨Nat.zero_le _, Nat.zero_le _⟩ hc.i (hc.c _) rfl (Nat.le_of_ble_eq_true rfl) rfl rfl dX6_accountNow_34 (fun H locs Z => ?_)
    cases hT
    exact W.iret hx hb hr (fun t ht hW => mx_end Z t ht _) Z.2.2.2 dX6_accountNow_37
  · replace hT := mx_f hT h_1
    by_cases h_3 : x1 = 1
    · replace hT := mx_t hT h_3
      refine lv_tableIn (tgt := 38) hx hb dX6_accountNow_1 (by rw [h_3]; decide) (by rw [h_3]; decide) (by rw [h_3]; rfl) (by decide) ?_
      refine lv_aload_n hx hb dX6_accountNow_38 rfl (lv_at hl 0 rfl) ?_
      refine lv_iconst (v := (4 : Int32)) hx hb dX6_accountNow_39 (by decide) ?_
      obtain ⟨q_4, h_q_4, hT⟩ := mx_bind hT
      refine mx_callV (As := [.int ((4 : Int32))]) (rest := []) (st1 := [.int (q_4)]) (C := RX6) (T := TX6) (N := 11) (ci := 6) X Z hl.1 (c6_other l E hJ hc _ _ _ h_q_4) wd_14_8 wd_14_9 wd_14_10 wd_1_5 wd_14_11 hd6_other ⟨Nat.le_trans (by decide) hR.1, Nat.le_trans (by decide) hR.2⟩ ⟨Nat.zero_le _, Nat.zero_le _⟩ hc.i (hc.c _) rfl (Nat.le_of_ble_eq_true rfl) rfl rfl dX6_accountNow_40 (fun H locs Z => ?_)
      cases hT
      exact W.iret hx hb hr (fun t ht hW => mx_end Z t ht _) Z.2.2.2 dX6_accountNow_43
    · replace hT := mx_f hT h_3
      by_cases h_5 : x1 = 2
      · replace hT := mx_t hT h_5
        refine lv_tableIn (tgt := 44) hx hb dX6_accountNow_1 (by rw [h_5]; decide) (by rw [h_5]; decide) (by rw [h_5]; rfl) (by decide) ?_
        refine lv_aload_n hx hb dX6_accountNow_44 rfl (lv_at hl 0 rfl) ?_
        obtain ⟨q_6, h_q_6, hT⟩ := mx_bind hT
        refine mx_callV (As := []) (rest := []) (st1 := [.int (q_6)]) (C := RX6) (T := TX6) (N := 11) (ci := 6) X Z hl.1 (c6_peatInTrains l E hJ hc _ _ h_q_6) wd_13_7 wd_13_8 wd_13_9 wd_1_5 wd_13_10 hd6_peatInTrains ⟨Nat.le_trans (by decide) hR.1, Nat.le_trans (by decide) hR.2⟩ ⟨Nat.zero_le _, Nat.zero_le _⟩ hc.i (hc.c _) rfl (Nat.le_of_ble_eq_true rfl) rfl rfl dX6_accountNow_45 (fun H locs Z => ?_)
        cases hT
        exact W.iret hx hb hr (fun t ht hW => mx_end Z t ht _) Z.2.2.2 dX6_accountNow_48
      · replace hT := mx_f hT h_5
        by_cases h_7 : x1 = 3
        · replace hT := mx_t hT h_7
          refine lv_tableIn (tgt := 49) hx hb dX6_accountNow_1 (by rw [h_7]; decide) (by rw [h_7]; decide) (by rw [h_7]; rfl) (by decide) ?_
          refine lv_aload_n hx hb dX6_accountNow_49 rfl (lv_at hl 0 rfl) ?_
          refine lv_iconst (v := (5 : Int32)) hx hb dX6_accountNow_50 (by decide) ?_
          obtain ⟨q_8, h_q_8, hT⟩ := mx_bind hT
          refine mx_callV (As := [.int ((5 : Int32))]) (rest := []) (st1 := [.int (q_8)]) (C := RX6) (T := TX6) (N := 11) (ci := 6) X Z hl.1 (c6_other l E hJ hc _ _ _ h_q_8) wd_14_8 wd_14_9 wd_14_10 wd_1_5 wd_14_11 hd6_other ⟨Nat.le_trans (by decide) hR.1, Nat.le_trans (by decide) hR.2⟩ ⟨Nat.zero_le _, Nat.zero_le _⟩ hc.i (hc.c _) rfl (Nat.le_of_ble_eq_true rfl) rfl rfl dX6_accountNow_51 (fun H locs Z => ?_)
          cases hT
          exact W.iret hx hb hr (fun t ht hW => mx_end Z t ht _) Z.2.2.2 dX6_accountNow_54
        · replace hT := mx_f hT h_7
          refine lv_tableOut (tgt := 55) hx hb dX6_accountNow_1 (mx_out (n := 3) (by decide) (fun k hk => by rcases (show k = 0 ∨ k = 1 ∨ k = 2 ∨ k = 3 by omega) with rfl | rfl | rfl | rfl <;> assumption)) (by decide) ?_
          refine lv_aload_n hx hb dX6_accountNow_55 rfl (lv_at hl 0 rfl) ?_
          refine lv_bipush (v := (6 : Int32)) hx hb dX6_accountNow_56 (by decide) ?_
          obtain ⟨q_9, h_q_9, hT⟩ := mx_bind hT
          refine mx_callV (As := [.int ((6 : Int32))]) (rest := []) (st1 := [.int (q_9)]) (C := RX6) (T := TX6) (N := 11) (ci := 6) X Z hl.1 (c6_other l E hJ hc _ _ _ h_q_9) wd_14_8 wd_14_9 wd_14_10 wd_1_5 wd_14_11 hd6_other ⟨Nat.le_trans (by decide) hR.1, Nat.le_trans (by decide) hR.2⟩ ⟨Nat.zero_le _, Nat.zero_le _⟩ hc.i (hc.c _) rfl (Nat.le_of_ble_eq_true rfl) rfl rfl dX6_accountNow_58 (fun H locs Z => ?_)
          cases hT
          exact W.iret hx hb hr (fun t ht hW => mx_end Z t ht _) Z.2.2.2 dX6_accountNow_61
/-! PeatRailwayModel.account -/
def x6_account (x1 : Int32) (G : mM) : Option Int32 :=
  (x6_within x1 ((0 : Int32)) ((4 : Int32)) G).bind fun q_1 =>
  if q_1 = 0 then
    some ((-2 : Int32))
  else
    (x6_accountNow x1 G).bind fun q_3 =>
    some (q_3)
theorem hd6_account : yX6_account.cls = RX6 ∧ yX6_account.cls ≠ "java/lang/invoke/MethodHandle" ∧ yX6_account.cls ≠ "java/lang/invoke/VarHandle" ∧ (parseMethodDescriptor yX6_account.desc).map (fun d => d.parameters.length) = some 1 := by decide +kernel
set_option maxHeartbeats 4000000 in
set_option maxRecDepth 100000 in
theorem c6_account (l : Launch) (E : mE) (hJ : mJ E) (hc : mMo E 246) (x1 : Int32) (G : mM) (q : Int32) (hT : x6_account x1 G = some q) : mMet l E yX6_account cX6_account 2 (some .int) 3 65 [.ref (mad E (246)), .int (x1)] G (some (.int q)) G := by
  refine Met.ofW (cc := cX6_account) (maxL := 2) (ret := (some .int)) (by decide) rfl ?_
  intro p e s m args below meth cd s₁ B hml hv
  obtain ⟨rfl, hP, hK, hS⟩ := hv
  have X := mx_entry (own := RX6) B hml hK hJ hS rfl
  have hx := X.1
  have hb := X.2.1
  have hown := X.2.2.2.1
  have hts := X.2.2.2.2.1
  have hr := B.returns
  have hlocks := B.notSynchronized
  have hR : 3 ≤ (headSpec (mWs yX6_account cX6_account 2 (some .int)) ({ frames := 3, cells := 0, slots := 0, locals := 65 })).room.frames ∧ 65 ≤ (headSpec (mWs yX6_account cX6_account 2 (some .int)) ({ frames := 3, cells := 0, slots := 0, locals := 65 })).room.locals := ⟨Nat.le_refl _, Nat.le_refl _⟩
  have Z : mZ E s.heap s.heap [] G := ⟨hP, va_S.rf⟩
  have hl := lv_entry ([.ref (mad E (246)), .int (x1)]) (n := 2) (Nat.le_of_ble_eq_true rfl)
  rw [lg_entry_eq]
  generalize (lg_sl ([.ref (mad E (246)), .int (x1)]) ++ List.replicate (2 - (lg_sl ([.ref (mad E (246)), .int (x1)])).length) Slot.unset).toArray = ls at hl ⊢
  have hl : lv_has ls 2 [(0, .ref (mad E (246))), (1, .int (x1))] := hl
  unfold x6_account at hT
  refine lv_iload_n hx hb dX6_account_0 rfl (lv_at hl 1 rfl) ?_
  refine lv_iconst (v := (0 : Int32)) hx hb dX6_account_1 (by decide) ?_
  refine lv_iconst (v := (4 : Int32)) hx hb dX6_account_2 (by decide) ?_
  obtain ⟨q_1, h_q_1, hT⟩ := mx_bind hT
  refine mx_callS (As := [.int (x1), .int ((0 : Int32)), .int ((4 : Int32))]) (rest := []) (st1 := [.int (q_1)]) X Z hl.1 (c6_within l E hJ _ _ _ _ _ h_q_1) wd_9_1 wd_9_2 wd_1_5 wd_9_3 hd6_within ⟨Nat.le_trans (by decide) hR.1, Nat.le_trans (by decide) hR.2⟩ ⟨Nat.zero_le _, Nat.zero_le _⟩ (Nat.le_of_ble_eq_true rfl) rfl rfl dX6_account_3 (fun H locs Z => ?_)
  refine lv_if_eq (tgt := 17) hx hb dX6_account_6 (by decide) (fun h_2 => ?_) (fun h_2 => ?_)
  · replace hT := mx_t hT h_2
    refine lv_bipush (v := (-2 : Int32)) hx hb dX6_account_17 (by decide) ?_
    cases hT
    exact W.iret hx hb hr (fun t ht hW => mx_end Z t ht _) Z.2.2.2 dX6_account_19
  · replace hT := mx_f hT h_2
    refine lv_aload_n hx hb dX6_account_9 rfl (lv_at hl 0 rfl) ?_
    refine lv_iload_n hx hb dX6_account_10 rfl (lv_at hl 1 rfl) ?_
    obtain ⟨q_3, h_q_3, hT⟩ := mx_bind hT
    refine mx_callV (As := [.int (x1)]) (rest := []) (st1 := [.int (q_3)]) (C := RX6) (T := TX6) (N := 11) (ci := 6) X Z hl.1 (c6_accountNow l E hJ hc _ _ _ h_q_3) wd_28_8 wd_28_9 wd_28_10 wd_1_5 wd_28_11 hd6_accountNow ⟨Nat.le_trans (by decide) hR.1, Nat.le_trans (by decide) hR.2⟩ ⟨Nat.zero_le _, Nat.zero_le _⟩ hc.i (hc.c _) rfl (Nat.le_of_ble_eq_true rfl) rfl rfl dX6_account_11 (fun H locs Z => ?_)
    refine lv_goto (tgt := 19) hx hb dX6_account_14 (by decide) ?_
    cases hT
    exact W.iret hx hb hr (fun t ht hW => mx_end Z t ht _) Z.2.2.2 dX6_account_19
/-! PeatRailwayModel.deepest -/
def x6_deepest_L4 : Nat → Int32 → Int32 → mM → Option (Int32)
  | 0, _, _, _ => none
  | n + 1, w1, w2, G =>
    if (G 247 72) ≤ w2 then
      some (w1)
    else
      (x6_seg w2 ((2 : Int32)) G).bind fun q_2 =>
      if q_2 ≤ w1 then
        mNm (w2 + (1 : Int32)) fun v_4 =>
        x6_deepest_L4 n w1 v_4 G
      else
        (x6_seg w2 ((2 : Int32)) G).bind fun q_5 =>
        mNm (w2 + (1 : Int32)) fun v_6 =>
        x6_deepest_L4 n q_5 v_6 G
def x6_deepest (G : mM) : Option Int32 :=
  (x6_deepest_L4 mFu ((0 : Int32)) ((0 : Int32)) G).bind fun q_7 =>
  some (q_7)
theorem hd6_deepest : yX6_deepest.cls = RX6 ∧ yX6_deepest.cls ≠ "java/lang/invoke/MethodHandle" ∧ yX6_deepest.cls ≠ "java/lang/invoke/VarHandle" ∧ (parseMethodDescriptor yX6_deepest.desc).map (fun d => d.parameters.length) = some 0 := by decide +kernel
set_option maxHeartbeats 4000000 in
set_option maxRecDepth 100000 in
theorem k6_deepest_4 {p : Program} {l : Launch} {e : Env} {R : Room} {s : State} {m : MethodId} {args : Array Value} {below : List Frame} {meth : Method} {cd : Code} {Q : State → Prop} {E : mE} (X : mX p s m args cd cX6_deepest 3 RX6 E) (hR : 1 ≤ R.frames ∧ 22 ≤ R.locals) (hJ : mJ E) (hy0 : mMo E 246) : ∀ (n : Nat) (w1 : Int32) (w2 : Int32) (G : mM) (H : Heap) (locs : List Loc) (ls : Array Slot) (r : Int32), x6_deepest_L4 n w1 w2 G = some r → mZ E s.heap H locs G → lv_has ls 3 [(0, .ref (mad E (246))), (1, .int (w1)), (2, .int (w2))] → (∀ (H : Heap) (locs : List Loc) (ls : Array Slot), mZ E s.heap H locs G → lv_has ls 3 [(0, .ref (mad E (246))), (1, .int (r))] → W p l e R s m args below meth cd H locs 0 0 Q (F0 m 42 ls [])) → W p l e R s m args below meth cd H locs 0 0 Q (F0 m 4 ls []) := by
  have hx := X.1
  have hb := X.2.1
  have hown := X.2.2.2.1
  have hts := X.2.2.2.2.1
  intro n
  induction n with
  | zero =>
    intro w1 w2 G H locs ls r hT
    rw [x6_deepest_L4] at hT
    cases hT
  | succ n ih =>
    intro w1 w2 G H locs ls r hT Z hl k0
    rw [x6_deepest_L4] at hT
    refine lv_iload_n hx hb dX6_deepest_4 rfl (lv_at hl 2 rfl) ?_
    refine lv_aload_n hx hb dX6_deepest_5 rfl (lv_at hl 0 rfl) ?_
    refine mx_get (v := .ref (mad E (247))) (ci := 6) (C := RX6) (T := TX6) (N := 11) X Z hy0.i (hy0.c _) rfl inlX6 0 (by decide) wd_7_23 rfl dX6_deepest_6 ?_
    refine lv_bipush (v := (72 : Int32)) hx hb dX6_deepest_9 (by decide) ?_
    refine mx_iald X Z hy0.z (mx_lit (by decide)) dX6_deepest_11 ?_
    refine mx_tops (s2 := [.int (G 247 72), .int (w2)]) rfl ?_
    refine lv_icmp_ge (tgt := 42) hx hb dX6_deepest_12 (by decide) (fun h_1 => ?_) (fun h_1 => ?_)
    · replace hT := mx_t hT h_1
      cases hT
      exact k0 _ _ _ Z (lv_sub hl [0, 1] rfl)
    · replace hT := mx_f hT h_1
      refine lv_aload_n hx hb dX6_deepest_15 rfl (lv_at hl 0 rfl) ?_
      refine lv_iload_n hx hb dX6_deepest_16 rfl (lv_at hl 2 rfl) ?_
      refine lv_iconst (v := (2 : Int32)) hx hb dX6_deepest_17 (by decide) ?_
      obtain ⟨q_2, h_q_2, hT⟩ := mx_bind hT
      refine mx_callV (As := [.int (w2), .int ((2 : Int32))]) (rest := []) (st1 := [.int (q_2)]) (C := RX6) (T := TX6) (N := 11) (ci := 6) X Z hl.1 (c6_seg l E hJ hy0 _ _ _ _ h_q_2) wd_21_23 wd_22_0 wd_22_1 wd_1_5 wd_22_2 hd6_seg ⟨Nat.le_trans (by decide) hR.1, Nat.le_trans (by decide) hR.2⟩ ⟨Nat.zero_le _, Nat.zero_le _⟩ hy0.i (hy0.c _) rfl (Nat.le_of_ble_eq_true rfl) rfl rfl dX6_deepest_18 (fun H locs Z => ?_)
      refine lv_iload_n hx hb dX6_deepest_21 rfl (lv_at hl 1 rfl) ?_
      refine lv_icmp_le (tgt := 34) hx hb dX6_deepest_22 (by decide) (fun h_3 => ?_) (fun h_3 => ?_)
      · replace hT := mx_t hT h_3
        refine lv_iload_n hx hb dX6_deepest_34 rfl (lv_at hl 1 rfl) ?_
        refine lv_istore_n (lv' := [(1, .int (w1)), (0, .ref (mad E (246))), (2, .int (w2))]) hx hb dX6_deepest_35 rfl hl (by decide) rfl (fun ls hl => ?_)
        obtain ⟨v_4, e_v_4, hT⟩ := mx_nm hT
        refine lv_iinc (v := v_4) (lv' := [(2, .int (v_4)), (1, .int (w1)), (0, .ref (mad E (246)))]) hx hb dX6_deepest_36 hl (k := 2) rfl (by rw [← e_v_4]; rfl) (by decide) rfl (fun ls hl => ?_)
        refine lv_goto (tgt := 4) hx hb dX6_deepest_39 (by decide) ?_
        exact ih _ _ _ _ _ _ _ hT Z (lv_sub hl [2, 1, 0] rfl) k0
      · replace hT := mx_f hT h_3
        refine lv_aload_n hx hb dX6_deepest_25 rfl (lv_at hl 0 rfl) ?_
        refine lv_iload_n hx hb dX6_deepest_26 rfl (lv_at hl 2 rfl) ?_
        refine lv_iconst (v := (2 : Int32)) hx hb dX6_deepest_27 (by decide) ?_
        obtain ⟨q_5, h_q_5, hT⟩ := mx_bind hT
        refine mx_callV (As := [.int (w2), .int ((2 : Int32))]) (rest := []) (st1 := [.int (q_5)]) (C := RX6) (T := TX6) (N := 11) (ci := 6) X Z hl.1 (c6_seg l E hJ hy0 _ _ _ _ h_q_5) wd_21_23 wd_22_0 wd_22_1 wd_1_5 wd_22_2 hd6_seg ⟨Nat.le_trans (by decide) hR.1, Nat.le_trans (by decide) hR.2⟩ ⟨Nat.zero_le _, Nat.zero_le _⟩ hy0.i (hy0.c _) rfl (Nat.le_of_ble_eq_true rfl) rfl rfl dX6_deepest_28 (fun H locs Z => ?_)
        refine lv_goto (tgt := 35) hx hb dX6_deepest_31 (by decide) ?_
        refine lv_istore_n (lv' := [(1, .int (q_5)), (0, .ref (mad E (246))), (2, .int (w2))]) hx hb dX6_deepest_35 rfl hl (by decide) rfl (fun ls hl => ?_)
        obtain ⟨v_6, e_v_6, hT⟩ := mx_nm hT
        refine lv_iinc (v := v_6) (lv' := [(2, .int (v_6)), (1, .int (q_5)), (0, .ref (mad E (246)))]) hx hb dX6_deepest_36 hl (k := 2) rfl (by rw [← e_v_6]; rfl) (by decide) rfl (fun ls hl => ?_)
        refine lv_goto (tgt := 4) hx hb dX6_deepest_39 (by decide) ?_
        exact ih _ _ _ _ _ _ _ hT Z (lv_sub hl [2, 1, 0] rfl) k0
set_option maxHeartbeats 4000000 in
set_option maxRecDepth 100000 in
theorem c6_deepest (l : Launch) (E : mE) (hJ : mJ E) (hc : mMo E 246) (G : mM) (q : Int32) (hT : x6_deepest G = some q) : mMet l E yX6_deepest cX6_deepest 3 (some .int) 1 22 [.ref (mad E (246))] G (some (.int q)) G := by
  refine Met.ofW (cc := cX6_deepest) (maxL := 3) (ret := (some .int)) (by decide) rfl ?_
  intro p e s m args below meth cd s₁ B hml hv
  obtain ⟨rfl, hP, hK, hS⟩ := hv
  have X := mx_entry (own := RX6) B hml hK hJ hS rfl
  have hx := X.1
  have hb := X.2.1
  have hown := X.2.2.2.1
  have hts := X.2.2.2.2.1
  have hr := B.returns
  have hlocks := B.notSynchronized
  have hR : 1 ≤ (headSpec (mWs yX6_deepest cX6_deepest 3 (some .int)) ({ frames := 1, cells := 0, slots := 0, locals := 22 })).room.frames ∧ 22 ≤ (headSpec (mWs yX6_deepest cX6_deepest 3 (some .int)) ({ frames := 1, cells := 0, slots := 0, locals := 22 })).room.locals := ⟨Nat.le_refl _, Nat.le_refl _⟩
  have Z : mZ E s.heap s.heap [] G := ⟨hP, va_S.rf⟩
  have hl := lv_entry ([.ref (mad E (246))]) (n := 3) (Nat.le_of_ble_eq_true rfl)
  rw [lg_entry_eq]
  generalize (lg_sl ([.ref (mad E (246))]) ++ List.replicate (3 - (lg_sl ([.ref (mad E (246))])).length) Slot.unset).toArray = ls at hl ⊢
  have hl : lv_has ls 3 [(0, .ref (mad E (246)))] := hl
  unfold x6_deepest at hT
  refine lv_iconst (v := (0 : Int32)) hx hb dX6_deepest_0 (by decide) ?_
  refine lv_istore_n (lv' := [(1, .int ((0 : Int32))), (0, .ref (mad E (246)))]) hx hb dX6_deepest_1 rfl hl (by decide) rfl (fun ls hl => ?_)
  refine lv_iconst (v := (0 : Int32)) hx hb dX6_deepest_2 (by decide) ?_
  refine lv_istore_n (lv' := [(2, .int ((0 : Int32))), (1, .int ((0 : Int32))), (0, .ref (mad E (246)))]) hx hb dX6_deepest_3 rfl hl (by decide) rfl (fun ls hl => ?_)
  obtain ⟨q_7, h_q_7, hT⟩ := mx_bind hT
  refine k6_deepest_4 X hR hJ hc  _ _ _ _ _ _ _ _ h_q_7 Z (lv_sub (l' := [(0, .ref (mad E (246))), (1, .int ((0 : Int32))), (2, .int ((0 : Int32)))]) hl [2, 1, 0] rfl) (fun H locs ls Z hl => ?_)
  · refine lv_iload_n hx hb dX6_deepest_42 rfl (lv_at hl 1 rfl) ?_
    cases hT
    exact W.iret hx hb hr (fun t ht hW => mx_end Z t ht _) Z.2.2.2 dX6_deepest_43
/-! PeatRailwayModel.allWaits -/
def x6_allWaits_L4 : Nat → Int32 → Int32 → mM → Option (Int32)
  | 0, _, _, _ => none
  | n + 1, w1, w2, G =>
    if (G 247 73) ≤ w2 then
      some (w1)
    else
      (x6_of w2 ((7 : Int32)) G).bind fun q_2 =>
      mNm (w1 + q_2) fun v_3 =>
      mNm (w2 + (1 : Int32)) fun v_4 =>
      x6_allWaits_L4 n v_3 v_4 G
def x6_allWaits (G : mM) : Option Int32 :=
  (x6_allWaits_L4 mFu ((0 : Int32)) ((0 : Int32)) G).bind fun q_5 =>
  some (q_5)
theorem hd6_allWaits : yX6_allWaits.cls = RX6 ∧ yX6_allWaits.cls ≠ "java/lang/invoke/MethodHandle" ∧ yX6_allWaits.cls ≠ "java/lang/invoke/VarHandle" ∧ (parseMethodDescriptor yX6_allWaits.desc).map (fun d => d.parameters.length) = some 0 := by decide +kernel
set_option maxHeartbeats 4000000 in
set_option maxRecDepth 100000 in
theorem k6_allWaits_4 {p : Program} {l : Launch} {e : Env} {R : Room} {s : State} {m : MethodId} {args : Array Value} {below : List Frame} {meth : Method} {cd : Code} {Q : State → Prop} {E : mE} (X : mX p s m args cd cX6_allWaits 3 RX6 E) (hR : 1 ≤ R.frames ∧ 22 ≤ R.locals) (hJ : mJ E) (hy0 : mMo E 246) : ∀ (n : Nat) (w1 : Int32) (w2 : Int32) (G : mM) (H : Heap) (locs : List Loc) (ls : Array Slot) (r : Int32), x6_allWaits_L4 n w1 w2 G = some r → mZ E s.heap H locs G → lv_has ls 3 [(0, .ref (mad E (246))), (1, .int (w1)), (2, .int (w2))] → (∀ (H : Heap) (locs : List Loc) (ls : Array Slot), mZ E s.heap H locs G → lv_has ls 3 [(0, .ref (mad E (246))), (1, .int (r))] → W p l e R s m args below meth cd H locs 0 0 Q (F0 m 31 ls [])) → W p l e R s m args below meth cd H locs 0 0 Q (F0 m 4 ls []) := by
  have hx := X.1
  have hb := X.2.1
  have hown := X.2.2.2.1
  have hts := X.2.2.2.2.1
  intro n
  induction n with
  | zero =>
    intro w1 w2 G H locs ls r hT
    rw [x6_allWaits_L4] at hT
    cases hT
  | succ n ih =>
    intro w1 w2 G H locs ls r hT Z hl k0
    rw [x6_allWaits_L4] at hT
    refine lv_iload_n hx hb dX6_allWaits_4 rfl (lv_at hl 2 rfl) ?_
    refine lv_aload_n hx hb dX6_allWaits_5 rfl (lv_at hl 0 rfl) ?_
    refine mx_get (v := .ref (mad E (247))) (ci := 6) (C := RX6) (T := TX6) (N := 11) X Z hy0.i (hy0.c _) rfl inlX6 0 (by decide) wd_7_23 rfl dX6_allWaits_6 ?_
    refine lv_bipush (v := (73 : Int32)) hx hb dX6_allWaits_9 (by decide) ?_
    refine mx_iald X Z hy0.z (mx_lit (by decide)) dX6_allWaits_11 ?_
    refine mx_tops (s2 := [.int (G 247 73), .int (w2)]) rfl ?_
    refine lv_icmp_ge (tgt := 31) hx hb dX6_allWaits_12 (by decide) (fun h_1 => ?_) (fun h_1 => ?_)
    · replace hT := mx_t hT h_1
      cases hT
      exact k0 _ _ _ Z (lv_sub hl [0, 1] rfl)
    · replace hT := mx_f hT h_1
      refine lv_iload_n hx hb dX6_allWaits_15 rfl (lv_at hl 1 rfl) ?_
      refine lv_aload_n hx hb dX6_allWaits_16 rfl (lv_at hl 0 rfl) ?_
      refine lv_iload_n hx hb dX6_allWaits_17 rfl (lv_at hl 2 rfl) ?_
      refine lv_bipush (v := (7 : Int32)) hx hb dX6_allWaits_18 (by decide) ?_
      obtain ⟨q_2, h_q_2, hT⟩ := mx_bind hT
      refine mx_callV (As := [.int (w2), .int ((7 : Int32))]) (rest := [.int (w1)]) (st1 := [.int (q_2), .int (w1)]) (C := RX6) (T := TX6) (N := 11) (ci := 6) X Z hl.1 (c6_of l E hJ hy0 _ _ _ _ h_q_2) wd_13_11 wd_13_12 wd_13_13 wd_1_5 wd_13_14 hd6_of ⟨Nat.le_trans (by decide) hR.1, Nat.le_trans (by decide) hR.2⟩ ⟨Nat.zero_le _, Nat.zero_le _⟩ hy0.i (hy0.c _) rfl (Nat.le_of_ble_eq_true rfl) rfl rfl dX6_allWaits_20 (fun H locs Z => ?_)
      refine lv_iadd hx hb dX6_allWaits_23 ?_
      obtain ⟨v_3, e_v_3, hT⟩ := mx_nm hT
      refine mx_tops (congrArg (fun z => (.int (z) :: [] : List Value)) e_v_3) ?_
      refine lv_istore_n (lv' := [(1, .int (v_3)), (0, .ref (mad E (246))), (2, .int (w2))]) hx hb dX6_allWaits_24 rfl hl (by decide) rfl (fun ls hl => ?_)
      obtain ⟨v_4, e_v_4, hT⟩ := mx_nm hT
      refine lv_iinc (v := v_4) (lv' := [(2, .int (v_4)), (1, .int (v_3)), (0, .ref (mad E (246)))]) hx hb dX6_allWaits_25 hl (k := 2) rfl (by rw [← e_v_4]; rfl) (by decide) rfl (fun ls hl => ?_)
      refine lv_goto (tgt := 4) hx hb dX6_allWaits_28 (by decide) ?_
      exact ih _ _ _ _ _ _ _ hT Z (lv_sub hl [2, 1, 0] rfl) k0
set_option maxHeartbeats 4000000 in
set_option maxRecDepth 100000 in
theorem c6_allWaits (l : Launch) (E : mE) (hJ : mJ E) (hc : mMo E 246) (G : mM) (q : Int32) (hT : x6_allWaits G = some q) : mMet l E yX6_allWaits cX6_allWaits 3 (some .int) 1 22 [.ref (mad E (246))] G (some (.int q)) G := by
  refine Met.ofW (cc := cX6_allWaits) (maxL := 3) (ret := (some .int)) (by decide) rfl ?_
  intro p e s m args below meth cd s₁ B hml hv
  obtain ⟨rfl, hP, hK, hS⟩ := hv
  have X := mx_entry (own := RX6) B hml hK hJ hS rfl
  have hx := X.1
  have hb := X.2.1
  have hown := X.2.2.2.1
  have hts := X.2.2.2.2.1
  have hr := B.returns
  have hlocks := B.notSynchronized
  have hR : 1 ≤ (headSpec (mWs yX6_allWaits cX6_allWaits 3 (some .int)) ({ frames := 1, cells := 0, slots := 0, locals := 22 })).room.frames ∧ 22 ≤ (headSpec (mWs yX6_allWaits cX6_allWaits 3 (some .int)) ({ frames := 1, cells := 0, slots := 0, locals := 22 })).room.locals := ⟨Nat.le_refl _, Nat.le_refl _⟩
  have Z : mZ E s.heap s.heap [] G := ⟨hP, va_S.rf⟩
  have hl := lv_entry ([.ref (mad E (246))]) (n := 3) (Nat.le_of_ble_eq_true rfl)
  rw [lg_entry_eq]
  generalize (lg_sl ([.ref (mad E (246))]) ++ List.replicate (3 - (lg_sl ([.ref (mad E (246))])).length) Slot.unset).toArray = ls at hl ⊢
  have hl : lv_has ls 3 [(0, .ref (mad E (246)))] := hl
  unfold x6_allWaits at hT
  refine lv_iconst (v := (0 : Int32)) hx hb dX6_allWaits_0 (by decide) ?_
  refine lv_istore_n (lv' := [(1, .int ((0 : Int32))), (0, .ref (mad E (246)))]) hx hb dX6_allWaits_1 rfl hl (by decide) rfl (fun ls hl => ?_)
  refine lv_iconst (v := (0 : Int32)) hx hb dX6_allWaits_2 (by decide) ?_
  refine lv_istore_n (lv' := [(2, .int ((0 : Int32))), (1, .int ((0 : Int32))), (0, .ref (mad E (246)))]) hx hb dX6_allWaits_3 rfl hl (by decide) rfl (fun ls hl => ?_)
  obtain ⟨q_5, h_q_5, hT⟩ := mx_bind hT
  refine k6_allWaits_4 X hR hJ hc  _ _ _ _ _ _ _ _ h_q_5 Z (lv_sub (l' := [(0, .ref (mad E (246))), (1, .int ((0 : Int32))), (2, .int ((0 : Int32)))]) hl [2, 1, 0] rfl) (fun H locs ls Z hl => ?_)
  · refine lv_iload_n hx hb dX6_allWaits_31 rfl (lv_at hl 1 rfl) ?_
    cases hT
    exact W.iret hx hb hr (fun t ht hW => mx_end Z t ht _) Z.2.2.2 dX6_allWaits_32
/-! PeatRailwayModel.tooDeep -/
def x6_tooDeep_L4 : Nat → Int32 → Int32 → mM → Option (Int32)
  | 0, _, _, _ => none
  | n + 1, w1, w2, G =>
    if (G 247 72) ≤ w2 then
      some (w1)
    else
      (x6_seg w2 ((2 : Int32)) G).bind fun q_2 =>
      (x6_other ((0 : Int32)) G).bind fun q_3 =>
      if q_2 ≤ q_3 then
        mNm (w1 ||| ((0 : Int32))) fun v_5 =>
        mNm (w2 + (1 : Int32)) fun v_6 =>
        x6_tooDeep_L4 n v_5 v_6 G
      else
        mNm (w1 ||| (((1 : Int32)) <<< (w2 &&& 31))) fun v_7 =>
        mNm (w2 + (1 : Int32)) fun v_8 =>
        x6_tooDeep_L4 n v_7 v_8 G
def x6_tooDeep (G : mM) : Option Int32 :=
  (x6_tooDeep_L4 mFu ((0 : Int32)) ((0 : Int32)) G).bind fun q_9 =>
  some (q_9)
theorem hd6_tooDeep : yX6_tooDeep.cls = RX6 ∧ yX6_tooDeep.cls ≠ "java/lang/invoke/MethodHandle" ∧ yX6_tooDeep.cls ≠ "java/lang/invoke/VarHandle" ∧ (parseMethodDescriptor yX6_tooDeep.desc).map (fun d => d.parameters.length) = some 0 := by decide +kernel
set_option maxHeartbeats 4000000 in
set_option maxRecDepth 100000 in
theorem k6_tooDeep_4 {p : Program} {l : Launch} {e : Env} {R : Room} {s : State} {m : MethodId} {args : Array Value} {below : List Frame} {meth : Method} {cd : Code} {Q : State → Prop} {E : mE} (X : mX p s m args cd cX6_tooDeep 3 RX6 E) (hR : 1 ≤ R.frames ∧ 22 ≤ R.locals) (hJ : mJ E) (hy0 : mMo E 246) : ∀ (n : Nat) (w1 : Int32) (w2 : Int32) (G : mM) (H : Heap) (locs : List Loc) (ls : Array Slot) (r : Int32), x6_tooDeep_L4 n w1 w2 G = some r → mZ E s.heap H locs G → lv_has ls 3 [(0, .ref (mad E (246))), (1, .int (w1)), (2, .int (w2))] → (∀ (H : Heap) (locs : List Loc) (ls : Array Slot), mZ E s.heap H locs G → lv_has ls 3 [(0, .ref (mad E (246))), (1, .int (r))] → W p l e R s m args below meth cd H locs 0 0 Q (F0 m 45 ls [])) → W p l e R s m args below meth cd H locs 0 0 Q (F0 m 4 ls []) := by
  have hx := X.1
  have hb := X.2.1
  have hown := X.2.2.2.1
  have hts := X.2.2.2.2.1
  intro n
  induction n with
  | zero =>
    intro w1 w2 G H locs ls r hT
    rw [x6_tooDeep_L4] at hT
    cases hT
  | succ n ih =>
    intro w1 w2 G H locs ls r hT Z hl k0
    rw [x6_tooDeep_L4] at hT
    refine lv_iload_n hx hb dX6_tooDeep_4 rfl (lv_at hl 2 rfl) ?_
    refine lv_aload_n hx hb dX6_tooDeep_5 rfl (lv_at hl 0 rfl) ?_
    refine mx_get (v := .ref (mad E (247))) (ci := 6) (C := RX6) (T := TX6) (N := 11) X Z hy0.i (hy0.c _) rfl inlX6 0 (by decide) wd_7_23 rfl dX6_tooDeep_6 ?_
    refine lv_bipush (v := (72 : Int32)) hx hb dX6_tooDeep_9 (by decide) ?_
    refine mx_iald X Z hy0.z (mx_lit (by decide)) dX6_tooDeep_11 ?_
    refine mx_tops (s2 := [.int (G 247 72), .int (w2)]) rfl ?_
    refine lv_icmp_ge (tgt := 45) hx hb dX6_tooDeep_12 (by decide) (fun h_1 => ?_) (fun h_1 => ?_)
    · replace hT := mx_t hT h_1
      cases hT
      exact k0 _ _ _ Z (lv_sub hl [0, 1] rfl)
    · replace hT := mx_f hT h_1
      refine lv_iload_n hx hb dX6_tooDeep_15 rfl (lv_at hl 1 rfl) ?_
      refine lv_aload_n hx hb dX6_tooDeep_16 rfl (lv_at hl 0 rfl) ?_
      refine lv_iload_n hx hb dX6_tooDeep_17 rfl (lv_at hl 2 rfl) ?_
      refine lv_iconst (v := (2 : Int32)) hx hb dX6_tooDeep_18 (by decide) ?_
      obtain ⟨q_2, h_q_2, hT⟩ := mx_bind hT
      refine mx_callV (As := [.int (w2), .int ((2 : Int32))]) (rest := [.int (w1)]) (st1 := [.int (q_2), .int (w1)]) (C := RX6) (T := TX6) (N := 11) (ci := 6) X Z hl.1 (c6_seg l E hJ hy0 _ _ _ _ h_q_2) wd_21_23 wd_22_0 wd_22_1 wd_1_5 wd_22_2 hd6_seg ⟨Nat.le_trans (by decide) hR.1, Nat.le_trans (by decide) hR.2⟩ ⟨Nat.zero_le _, Nat.zero_le _⟩ hy0.i (hy0.c _) rfl (Nat.le_of_ble_eq_true rfl) rfl rfl dX6_tooDeep_19 (fun H locs Z => ?_)
      refine lv_aload_n hx hb dX6_tooDeep_22 rfl (lv_at hl 0 rfl) ?_
      refine lv_iconst (v := (0 : Int32)) hx hb dX6_tooDeep_23 (by decide) ?_
      obtain ⟨q_3, h_q_3, hT⟩ := mx_bind hT
      refine mx_callV (As := [.int ((0 : Int32))]) (rest := [.int (q_2), .int (w1)]) (st1 := [.int (q_3), .int (q_2), .int (w1)]) (C := RX6) (T := TX6) (N := 11) (ci := 6) X Z hl.1 (c6_other l E hJ hy0 _ _ _ h_q_3) wd_14_8 wd_14_9 wd_14_10 wd_1_5 wd_14_11 hd6_other ⟨Nat.le_trans (by decide) hR.1, Nat.le_trans (by decide) hR.2⟩ ⟨Nat.zero_le _, Nat.zero_le _⟩ hy0.i (hy0.c _) rfl (Nat.le_of_ble_eq_true rfl) rfl rfl dX6_tooDeep_24 (fun H locs Z => ?_)
      refine lv_icmp_le (tgt := 36) hx hb dX6_tooDeep_27 (by decide) (fun h_4 => ?_) (fun h_4 => ?_)
      · replace hT := mx_t hT h_4
        refine lv_iconst (v := (0 : Int32)) hx hb dX6_tooDeep_36 (by decide) ?_
        refine lv_ior hx hb dX6_tooDeep_37 ?_
        obtain ⟨v_5, e_v_5, hT⟩ := mx_nm hT
        refine mx_tops (congrArg (fun z => (.int (z) :: [] : List Value)) e_v_5) ?_
        refine lv_istore_n (lv' := [(1, .int (v_5)), (0, .ref (mad E (246))), (2, .int (w2))]) hx hb dX6_tooDeep_38 rfl hl (by decide) rfl (fun ls hl => ?_)
        obtain ⟨v_6, e_v_6, hT⟩ := mx_nm hT
        refine lv_iinc (v := v_6) (lv' := [(2, .int (v_6)), (1, .int (v_5)), (0, .ref (mad E (246)))]) hx hb dX6_tooDeep_39 hl (k := 2) rfl (by rw [← e_v_6]; rfl) (by decide) rfl (fun ls hl => ?_)
        refine lv_goto (tgt := 4) hx hb dX6_tooDeep_42 (by decide) ?_
        exact ih _ _ _ _ _ _ _ hT Z (lv_sub hl [2, 1, 0] rfl) k0
      · replace hT := mx_f hT h_4
        refine lv_iconst (v := (1 : Int32)) hx hb dX6_tooDeep_30 (by decide) ?_
        refine lv_iload_n hx hb dX6_tooDeep_31 rfl (lv_at hl 2 rfl) ?_
        refine lv_ishl hx hb dX6_tooDeep_32 ?_
        refine lv_goto (tgt := 37) hx hb dX6_tooDeep_33 (by decide) ?_
        refine lv_ior hx hb dX6_tooDeep_37 ?_
        obtain ⟨v_7, e_v_7, hT⟩ := mx_nm hT
        refine mx_tops (congrArg (fun z => (.int (z) :: [] : List Value)) e_v_7) ?_
        refine lv_istore_n (lv' := [(1, .int (v_7)), (0, .ref (mad E (246))), (2, .int (w2))]) hx hb dX6_tooDeep_38 rfl hl (by decide) rfl (fun ls hl => ?_)
        obtain ⟨v_8, e_v_8, hT⟩ := mx_nm hT
        refine lv_iinc (v := v_8) (lv' := [(2, .int (v_8)), (1, .int (v_7)), (0, .ref (mad E (246)))]) hx hb dX6_tooDeep_39 hl (k := 2) rfl (by rw [← e_v_8]; rfl) (by decide) rfl (fun ls hl => ?_)
        refine lv_goto (tgt := 4) hx hb dX6_tooDeep_42 (by decide) ?_
        exact ih _ _ _ _ _ _ _ hT Z (lv_sub hl [2, 1, 0] rfl) k0
set_option maxHeartbeats 4000000 in
set_option maxRecDepth 100000 in
theorem c6_tooDeep (l : Launch) (E : mE) (hJ : mJ E) (hc : mMo E 246) (G : mM) (q : Int32) (hT : x6_tooDeep G = some q) : mMet l E yX6_tooDeep cX6_tooDeep 3 (some .int) 1 22 [.ref (mad E (246))] G (some (.int q)) G := by
  refine Met.ofW (cc := cX6_tooDeep) (maxL := 3) (ret := (some .int)) (by decide) rfl ?_
  intro p e s m args below meth cd s₁ B hml hv
  obtain ⟨rfl, hP, hK, hS⟩ := hv
  have X := mx_entry (own := RX6) B hml hK hJ hS rfl
  have hx := X.1
  have hb := X.2.1
  have hown := X.2.2.2.1
  have hts := X.2.2.2.2.1
  have hr := B.returns
  have hlocks := B.notSynchronized
  have hR : 1 ≤ (headSpec (mWs yX6_tooDeep cX6_tooDeep 3 (some .int)) ({ frames := 1, cells := 0, slots := 0, locals := 22 })).room.frames ∧ 22 ≤ (headSpec (mWs yX6_tooDeep cX6_tooDeep 3 (some .int)) ({ frames := 1, cells := 0, slots := 0, locals := 22 })).room.locals := ⟨Nat.le_refl _, Nat.le_refl _⟩
  have Z : mZ E s.heap s.heap [] G := ⟨hP, va_S.rf⟩
  have hl := lv_entry ([.ref (mad E (246))]) (n := 3) (Nat.le_of_ble_eq_true rfl)
  rw [lg_entry_eq]
  generalize (lg_sl ([.ref (mad E (246))]) ++ List.replicate (3 - (lg_sl ([.ref (mad E (246))])).length) Slot.unset).toArray = ls at hl ⊢
  have hl : lv_has ls 3 [(0, .ref (mad E (246)))] := hl
  unfold x6_tooDeep at hT
  refine lv_iconst (v := (0 : Int32)) hx hb dX6_tooDeep_0 (by decide) ?_
  refine lv_istore_n (lv' := [(1, .int ((0 : Int32))), (0, .ref (mad E (246)))]) hx hb dX6_tooDeep_1 rfl hl (by decide) rfl (fun ls hl => ?_)
  refine lv_iconst (v := (0 : Int32)) hx hb dX6_tooDeep_2 (by decide) ?_
  refine lv_istore_n (lv' := [(2, .int ((0 : Int32))), (1, .int ((0 : Int32))), (0, .ref (mad E (246)))]) hx hb dX6_tooDeep_3 rfl hl (by decide) rfl (fun ls hl => ?_)
  obtain ⟨q_9, h_q_9, hT⟩ := mx_bind hT
  refine k6_tooDeep_4 X hR hJ hc  _ _ _ _ _ _ _ _ h_q_9 Z (lv_sub (l' := [(0, .ref (mad E (246))), (1, .int ((0 : Int32))), (2, .int ((0 : Int32)))]) hl [2, 1, 0] rfl) (fun H locs ls Z hl => ?_)
  · refine lv_iload_n hx hb dX6_tooDeep_45 rfl (lv_at hl 1 rfl) ?_
    cases hT
    exact W.iret hx hb hr (fun t ht hW => mx_end Z t ht _) Z.2.2.2 dX6_tooDeep_46
/-! PeatRailwayModel.counted -/
def x6_counted (x1 : Int32) (G : mM) : Option Int32 :=
  if x1 = 0 then
    some (G 247 72)
  else
    if x1 = 1 then
      some (G 247 73)
    else
      if x1 = 2 then
        some (G 247 74)
      else
        if x1 = 3 then
          (x6_deepest G).bind fun q_5 =>
          some (q_5)
        else
          if x1 = 4 then
            (x6_allWaits G).bind fun q_7 =>
            some (q_7)
          else
            if x1 = 5 then
              some (G 246 2)
            else
              if x1 = 6 then
                some (G 246 4)
              else
                (x6_tooDeep G).bind fun q_10 =>
                some (q_10)
theorem hd6_counted : yX6_counted.cls = RX6 ∧ yX6_counted.cls ≠ "java/lang/invoke/MethodHandle" ∧ yX6_counted.cls ≠ "java/lang/invoke/VarHandle" ∧ (parseMethodDescriptor yX6_counted.desc).map (fun d => d.parameters.length) = some 1 := by decide +kernel
set_option maxHeartbeats 4000000 in
set_option maxRecDepth 100000 in
theorem c6_counted (l : Launch) (E : mE) (hJ : mJ E) (hc : mMo E 246) (x1 : Int32) (G : mM) (q : Int32) (hT : x6_counted x1 G = some q) : mMet l E yX6_counted cX6_counted 2 (some .int) 2 44 [.ref (mad E (246)), .int (x1)] G (some (.int q)) G := by
  refine Met.ofW (cc := cX6_counted) (maxL := 2) (ret := (some .int)) (by decide) rfl ?_
  intro p e s m args below meth cd s₁ B hml hv
  obtain ⟨rfl, hP, hK, hS⟩ := hv
  have X := mx_entry (own := RX6) B hml hK hJ hS rfl
  have hx := X.1
  have hb := X.2.1
  have hown := X.2.2.2.1
  have hts := X.2.2.2.2.1
  have hr := B.returns
  have hlocks := B.notSynchronized
  have hR : 2 ≤ (headSpec (mWs yX6_counted cX6_counted 2 (some .int)) ({ frames := 2, cells := 0, slots := 0, locals := 44 })).room.frames ∧ 44 ≤ (headSpec (mWs yX6_counted cX6_counted 2 (some .int)) ({ frames := 2, cells := 0, slots := 0, locals := 44 })).room.locals := ⟨Nat.le_refl _, Nat.le_refl _⟩
  have Z : mZ E s.heap s.heap [] G := ⟨hP, va_S.rf⟩
  have hl := lv_entry ([.ref (mad E (246)), .int (x1)]) (n := 2) (Nat.le_of_ble_eq_true rfl)
  rw [lg_entry_eq]
  generalize (lg_sl ([.ref (mad E (246)), .int (x1)]) ++ List.replicate (2 - (lg_sl ([.ref (mad E (246)), .int (x1)])).length) Slot.unset).toArray = ls at hl ⊢
  have hl : lv_has ls 2 [(0, .ref (mad E (246))), (1, .int (x1))] := hl
  unfold x6_counted at hT
  refine lv_iload_n hx hb dX6_counted_0 rfl (lv_at hl 1 rfl) ?_
  by_cases h_1 : x1 = 0
  · replace hT := mx_t hT h_1
    refine lv_tableIn (tgt := 44) hx hb dX6_counted_1 (by rw [h_1]; decide) (by rw [h_1]; decide) (by rw [h_1]; rfl) (by decide) ?_
    refine lv_aload_n hx hb dX6_counted_44 rfl (lv_at hl 0 rfl) ?_
    refine mx_get (v := .ref (mad E (247))) (ci := 6) (C := RX6) (T := TX6) (N := 11) X Z hc.i (hc.c _) rfl inlX6 0 (by decide) wd_7_23 rfl dX6_counted_45 ?_
    refine lv_bipush (v := (72 : Int32)) hx hb dX6_counted_48 (by decide) ?_
    refine mx_iald X Z hc.z (mx_lit (by decide)) dX6_counted_50 ?_
    refine mx_tops (s2 := [.int (G 247 72)]) rfl ?_
    cases hT
    exact W.iret hx hb hr (fun t ht hW => mx_end Z t ht _) Z.2.2.2 dX6_counted_51
  · replace hT := mx_f hT h_1
    by_cases h_2 : x1 = 1
    · replace hT := mx_t hT h_2
      refine lv_tableIn (tgt := 52) hx hb dX6_counted_1 (by rw [h_2]; decide) (by rw [h_2]; decide) (by rw [h_2]; rfl) (by decide) ?_
      refine lv_aload_n hx hb dX6_counted_52 rfl (lv_at hl 0 rfl) ?_
      refine mx_get (v := .ref (mad E (247))) (ci := 6) (C := RX6) (T := TX6) (N := 11) X Z hc.i (hc.c _) rfl inlX6 0 (by decide) wd_7_23 rfl dX6_counted_53 ?_
      refine lv_bipush (v := (73 : Int32)) hx hb dX6_counted_56 (by decide) ?_
      refine mx_iald X Z hc.z (mx_lit (by decide)) dX6_counted_58 ?_
      refine mx_tops (s2 := [.int (G 247 73)]) rfl ?_
      cases hT
      exact W.iret hx hb hr (fun t ht hW => mx_end Z t ht _) Z.2.2.2 dX6_counted_59
    · replace hT := mx_f hT h_2
      by_cases h_3 : x1 = 2
      · replace hT := mx_t hT h_3
        refine lv_tableIn (tgt := 60) hx hb dX6_counted_1 (by rw [h_3]; decide) (by rw [h_3]; decide) (by rw [h_3]; rfl) (by decide) ?_
        refine lv_aload_n hx hb dX6_counted_60 rfl (lv_at hl 0 rfl) ?_
        refine mx_get (v := .ref (mad E (247))) (ci := 6) (C := RX6) (T := TX6) (N := 11) X Z hc.i (hc.c _) rfl inlX6 0 (by decide) wd_7_23 rfl dX6_counted_61 ?_
        refine lv_bipush (v := (74 : Int32)) hx hb dX6_counted_64 (by decide) ?_
        refine mx_iald X Z hc.z (mx_lit (by decide)) dX6_counted_66 ?_
        refine mx_tops (s2 := [.int (G 247 74)]) rfl ?_
        cases hT
        exact W.iret hx hb hr (fun t ht hW => mx_end Z t ht _) Z.2.2.2 dX6_counted_67
      · replace hT := mx_f hT h_3
        by_cases h_4 : x1 = 3
        · replace hT := mx_t hT h_4
          refine lv_tableIn (tgt := 68) hx hb dX6_counted_1 (by rw [h_4]; decide) (by rw [h_4]; decide) (by rw [h_4]; rfl) (by decide) ?_
          refine lv_aload_n hx hb dX6_counted_68 rfl (lv_at hl 0 rfl) ?_
          obtain ⟨q_5, h_q_5, hT⟩ := mx_bind hT
          refine mx_callV (As := []) (rest := []) (st1 := [.int (q_5)]) (C := RX6) (T := TX6) (N := 11) (ci := 6) X Z hl.1 (c6_deepest l E hJ hc _ _ h_q_5) wd_29_12 wd_29_13 wd_29_14 wd_1_5 wd_29_15 hd6_deepest ⟨Nat.le_trans (by decide) hR.1, Nat.le_trans (by decide) hR.2⟩ ⟨Nat.zero_le _, Nat.zero_le _⟩ hc.i (hc.c _) rfl (Nat.le_of_ble_eq_true rfl) rfl rfl dX6_counted_69 (fun H locs Z => ?_)
          cases hT
          exact W.iret hx hb hr (fun t ht hW => mx_end Z t ht _) Z.2.2.2 dX6_counted_72
        · replace hT := mx_f hT h_4
          by_cases h_6 : x1 = 4
          · replace hT := mx_t hT h_6
            refine lv_tableIn (tgt := 73) hx hb dX6_counted_1 (by rw [h_6]; decide) (by rw [h_6]; decide) (by rw [h_6]; rfl) (by decide) ?_
            refine lv_aload_n hx hb dX6_counted_73 rfl (lv_at hl 0 rfl) ?_
            obtain ⟨q_7, h_q_7, hT⟩ := mx_bind hT
            refine mx_callV (As := []) (rest := []) (st1 := [.int (q_7)]) (C := RX6) (T := TX6) (N := 11) (ci := 6) X Z hl.1 (c6_allWaits l E hJ hc _ _ h_q_7) wd_29_16 wd_29_17 wd_29_18 wd_1_5 wd_29_19 hd6_allWaits ⟨Nat.le_trans (by decide) hR.1, Nat.le_trans (by decide) hR.2⟩ ⟨Nat.zero_le _, Nat.zero_le _⟩ hc.i (hc.c _) rfl (Nat.le_of_ble_eq_true rfl) rfl rfl dX6_counted_74 (fun H locs Z => ?_)
            cases hT
            exact W.iret hx hb hr (fun t ht hW => mx_end Z t ht _) Z.2.2.2 dX6_counted_77
          · replace hT := mx_f hT h_6
            by_cases h_8 : x1 = 5
            · replace hT := mx_t hT h_8
              refine lv_tableIn (tgt := 78) hx hb dX6_counted_1 (by rw [h_8]; decide) (by rw [h_8]; decide) (by rw [h_8]; rfl) (by decide) ?_
              refine lv_aload_n hx hb dX6_counted_78 rfl (lv_at hl 0 rfl) ?_
              refine mx_get (v := .int (G 246 2)) (ci := 6) (C := RX6) (T := TX6) (N := 11) X Z hc.i (hc.c _) rfl inlX6 2 (by decide) wd_13_2 rfl dX6_counted_79 ?_
              cases hT
              exact W.iret hx hb hr (fun t ht hW => mx_end Z t ht _) Z.2.2.2 dX6_counted_82
            · replace hT := mx_f hT h_8
              by_cases h_9 : x1 = 6
              · replace hT := mx_t hT h_9
                refine lv_tableIn (tgt := 83) hx hb dX6_counted_1 (by rw [h_9]; decide) (by rw [h_9]; decide) (by rw [h_9]; rfl) (by decide) ?_
                refine lv_aload_n hx hb dX6_counted_83 rfl (lv_at hl 0 rfl) ?_
                refine mx_get (v := .int (G 246 4)) (ci := 6) (C := RX6) (T := TX6) (N := 11) X Z hc.i (hc.c _) rfl inlX6 4 (by decide) wd_24_21 rfl dX6_counted_84 ?_
                cases hT
                exact W.iret hx hb hr (fun t ht hW => mx_end Z t ht _) Z.2.2.2 dX6_counted_87
              · replace hT := mx_f hT h_9
                refine lv_tableOut (tgt := 88) hx hb dX6_counted_1 (mx_out (n := 6) (by decide) (fun k hk => by rcases (show k = 0 ∨ k = 1 ∨ k = 2 ∨ k = 3 ∨ k = 4 ∨ k = 5 ∨ k = 6 by omega) with rfl | rfl | rfl | rfl | rfl | rfl | rfl <;> assumption)) (by decide) ?_
                refine lv_aload_n hx hb dX6_counted_88 rfl (lv_at hl 0 rfl) ?_
                obtain ⟨q_10, h_q_10, hT⟩ := mx_bind hT
                refine mx_callV (As := []) (rest := []) (st1 := [.int (q_10)]) (C := RX6) (T := TX6) (N := 11) (ci := 6) X Z hl.1 (c6_tooDeep l E hJ hc _ _ h_q_10) wd_29_20 wd_29_21 wd_29_22 wd_1_5 wd_29_23 hd6_tooDeep ⟨Nat.le_trans (by decide) hR.1, Nat.le_trans (by decide) hR.2⟩ ⟨Nat.zero_le _, Nat.zero_le _⟩ hc.i (hc.c _) rfl (Nat.le_of_ble_eq_true rfl) rfl rfl dX6_counted_89 (fun H locs Z => ?_)
                cases hT
                exact W.iret hx hb hr (fun t ht hW => mx_end Z t ht _) Z.2.2.2 dX6_counted_92
/-! PeatRailwayModel.count -/
def x6_count (x1 : Int32) (G : mM) : Option Int32 :=
  (x6_within x1 ((0 : Int32)) ((7 : Int32)) G).bind fun q_1 =>
  if q_1 = 0 then
    some ((-2 : Int32))
  else
    (x6_counted x1 G).bind fun q_3 =>
    some (q_3)
theorem hd6_count : yX6_count.cls = RX6 ∧ yX6_count.cls ≠ "java/lang/invoke/MethodHandle" ∧ yX6_count.cls ≠ "java/lang/invoke/VarHandle" ∧ (parseMethodDescriptor yX6_count.desc).map (fun d => d.parameters.length) = some 1 := by decide +kernel
set_option maxHeartbeats 4000000 in
set_option maxRecDepth 100000 in
theorem c6_count (l : Launch) (E : mE) (hJ : mJ E) (hc : mMo E 246) (x1 : Int32) (G : mM) (q : Int32) (hT : x6_count x1 G = some q) : mMet l E yX6_count cX6_count 2 (some .int) 3 65 [.ref (mad E (246)), .int (x1)] G (some (.int q)) G := by
  refine Met.ofW (cc := cX6_count) (maxL := 2) (ret := (some .int)) (by decide) rfl ?_
  intro p e s m args below meth cd s₁ B hml hv
  obtain ⟨rfl, hP, hK, hS⟩ := hv
  have X := mx_entry (own := RX6) B hml hK hJ hS rfl
  have hx := X.1
  have hb := X.2.1
  have hown := X.2.2.2.1
  have hts := X.2.2.2.2.1
  have hr := B.returns
  have hlocks := B.notSynchronized
  have hR : 3 ≤ (headSpec (mWs yX6_count cX6_count 2 (some .int)) ({ frames := 3, cells := 0, slots := 0, locals := 65 })).room.frames ∧ 65 ≤ (headSpec (mWs yX6_count cX6_count 2 (some .int)) ({ frames := 3, cells := 0, slots := 0, locals := 65 })).room.locals := ⟨Nat.le_refl _, Nat.le_refl _⟩
  have Z : mZ E s.heap s.heap [] G := ⟨hP, va_S.rf⟩
  have hl := lv_entry ([.ref (mad E (246)), .int (x1)]) (n := 2) (Nat.le_of_ble_eq_true rfl)
  rw [lg_entry_eq]
  generalize (lg_sl ([.ref (mad E (246)), .int (x1)]) ++ List.replicate (2 - (lg_sl ([.ref (mad E (246)), .int (x1)])).length) Slot.unset).toArray = ls at hl ⊢
  have hl : lv_has ls 2 [(0, .ref (mad E (246))), (1, .int (x1))] := hl
  unfold x6_count at hT
  refine lv_iload_n hx hb dX6_count_0 rfl (lv_at hl 1 rfl) ?_
  refine lv_iconst (v := (0 : Int32)) hx hb dX6_count_1 (by decide) ?_
  refine lv_bipush (v := (7 : Int32)) hx hb dX6_count_2 (by decide) ?_
  obtain ⟨q_1, h_q_1, hT⟩ := mx_bind hT
  refine mx_callS (As := [.int (x1), .int ((0 : Int32)), .int ((7 : Int32))]) (rest := []) (st1 := [.int (q_1)]) X Z hl.1 (c6_within l E hJ _ _ _ _ _ h_q_1) wd_9_1 wd_9_2 wd_1_5 wd_9_3 hd6_within ⟨Nat.le_trans (by decide) hR.1, Nat.le_trans (by decide) hR.2⟩ ⟨Nat.zero_le _, Nat.zero_le _⟩ (Nat.le_of_ble_eq_true rfl) rfl rfl dX6_count_4 (fun H locs Z => ?_)
  refine lv_if_eq (tgt := 18) hx hb dX6_count_7 (by decide) (fun h_2 => ?_) (fun h_2 => ?_)
  · replace hT := mx_t hT h_2
    refine lv_bipush (v := (-2 : Int32)) hx hb dX6_count_18 (by decide) ?_
    cases hT
    exact W.iret hx hb hr (fun t ht hW => mx_end Z t ht _) Z.2.2.2 dX6_count_20
  · replace hT := mx_f hT h_2
    refine lv_aload_n hx hb dX6_count_10 rfl (lv_at hl 0 rfl) ?_
    refine lv_iload_n hx hb dX6_count_11 rfl (lv_at hl 1 rfl) ?_
    obtain ⟨q_3, h_q_3, hT⟩ := mx_bind hT
    refine mx_callV (As := [.int (x1)]) (rest := []) (st1 := [.int (q_3)]) (C := RX6) (T := TX6) (N := 11) (ci := 6) X Z hl.1 (c6_counted l E hJ hc _ _ _ h_q_3) wd_29_8 wd_29_9 wd_29_10 wd_1_5 wd_29_11 hd6_counted ⟨Nat.le_trans (by decide) hR.1, Nat.le_trans (by decide) hR.2⟩ ⟨Nat.zero_le _, Nat.zero_le _⟩ hc.i (hc.c _) rfl (Nat.le_of_ble_eq_true rfl) rfl rfl dX6_count_12 (fun H locs Z => ?_)
    refine lv_goto (tgt := 20) hx hb dX6_count_15 (by decide) ?_
    cases hT
    exact W.iret hx hb hr (fun t ht hW => mx_end Z t ht _) Z.2.2.2 dX6_count_20
/-! PeatRailwayModel.setting -/
def x6_setting (x1 : Int32) (G : mM) : Option Int32 :=
  (x6_within x1 ((0 : Int32)) ((2 : Int32)) G).bind fun q_1 =>
  if q_1 = 0 then
    some ((-2 : Int32))
  else
    (x6_other x1 G).bind fun q_3 =>
    some (q_3)
theorem hd6_setting : yX6_setting.cls = RX6 ∧ yX6_setting.cls ≠ "java/lang/invoke/MethodHandle" ∧ yX6_setting.cls ≠ "java/lang/invoke/VarHandle" ∧ (parseMethodDescriptor yX6_setting.desc).map (fun d => d.parameters.length) = some 1 := by decide +kernel
set_option maxHeartbeats 4000000 in
set_option maxRecDepth 100000 in
theorem c6_setting (l : Launch) (E : mE) (hJ : mJ E) (hc : mMo E 246) (x1 : Int32) (G : mM) (q : Int32) (hT : x6_setting x1 G = some q) : mMet l E yX6_setting cX6_setting 2 (some .int) 1 22 [.ref (mad E (246)), .int (x1)] G (some (.int q)) G := by
  refine Met.ofW (cc := cX6_setting) (maxL := 2) (ret := (some .int)) (by decide) rfl ?_
  intro p e s m args below meth cd s₁ B hml hv
  obtain ⟨rfl, hP, hK, hS⟩ := hv
  have X := mx_entry (own := RX6) B hml hK hJ hS rfl
  have hx := X.1
  have hb := X.2.1
  have hown := X.2.2.2.1
  have hts := X.2.2.2.2.1
  have hr := B.returns
  have hlocks := B.notSynchronized
  have hR : 1 ≤ (headSpec (mWs yX6_setting cX6_setting 2 (some .int)) ({ frames := 1, cells := 0, slots := 0, locals := 22 })).room.frames ∧ 22 ≤ (headSpec (mWs yX6_setting cX6_setting 2 (some .int)) ({ frames := 1, cells := 0, slots := 0, locals := 22 })).room.locals := ⟨Nat.le_refl _, Nat.le_refl _⟩
  have Z : mZ E s.heap s.heap [] G := ⟨hP, va_S.rf⟩
  have hl := lv_entry ([.ref (mad E (246)), .int (x1)]) (n := 2) (Nat.le_of_ble_eq_true rfl)
  rw [lg_entry_eq]
  generalize (lg_sl ([.ref (mad E (246)), .int (x1)]) ++ List.replicate (2 - (lg_sl ([.ref (mad E (246)), .int (x1)])).length) Slot.unset).toArray = ls at hl ⊢
  have hl : lv_has ls 2 [(0, .ref (mad E (246))), (1, .int (x1))] := hl
  unfold x6_setting at hT
  refine lv_iload_n hx hb dX6_setting_0 rfl (lv_at hl 1 rfl) ?_
  refine lv_iconst (v := (0 : Int32)) hx hb dX6_setting_1 (by decide) ?_
  refine lv_iconst (v := (2 : Int32)) hx hb dX6_setting_2 (by decide) ?_
  obtain ⟨q_1, h_q_1, hT⟩ := mx_bind hT
  refine mx_callS (As := [.int (x1), .int ((0 : Int32)), .int ((2 : Int32))]) (rest := []) (st1 := [.int (q_1)]) X Z hl.1 (c6_within l E hJ _ _ _ _ _ h_q_1) wd_9_1 wd_9_2 wd_1_5 wd_9_3 hd6_within ⟨Nat.le_trans (by decide) hR.1, Nat.le_trans (by decide) hR.2⟩ ⟨Nat.zero_le _, Nat.zero_le _⟩ (Nat.le_of_ble_eq_true rfl) rfl rfl dX6_setting_3 (fun H locs Z => ?_)
  refine lv_if_eq (tgt := 17) hx hb dX6_setting_6 (by decide) (fun h_2 => ?_) (fun h_2 => ?_)
  · replace hT := mx_t hT h_2
    refine lv_bipush (v := (-2 : Int32)) hx hb dX6_setting_17 (by decide) ?_
    cases hT
    exact W.iret hx hb hr (fun t ht hW => mx_end Z t ht _) Z.2.2.2 dX6_setting_19
  · replace hT := mx_f hT h_2
    refine lv_aload_n hx hb dX6_setting_9 rfl (lv_at hl 0 rfl) ?_
    refine lv_iload_n hx hb dX6_setting_10 rfl (lv_at hl 1 rfl) ?_
    obtain ⟨q_3, h_q_3, hT⟩ := mx_bind hT
    refine mx_callV (As := [.int (x1)]) (rest := []) (st1 := [.int (q_3)]) (C := RX6) (T := TX6) (N := 11) (ci := 6) X Z hl.1 (c6_other l E hJ hc _ _ _ h_q_3) wd_14_8 wd_14_9 wd_14_10 wd_1_5 wd_14_11 hd6_other ⟨Nat.le_trans (by decide) hR.1, Nat.le_trans (by decide) hR.2⟩ ⟨Nat.zero_le _, Nat.zero_le _⟩ hc.i (hc.c _) rfl (Nat.le_of_ble_eq_true rfl) rfl rfl dX6_setting_11 (fun H locs Z => ?_)
    refine lv_goto (tgt := 19) hx hb dX6_setting_14 (by decide) ?_
    cases hT
    exact W.iret hx hb hr (fun t ht hW => mx_end Z t ht _) Z.2.2.2 dX6_setting_19
/-! PeatRailwayModel.ahead -/
def x6_ahead_L32 (y1 : Int32) (y2 : Int32) (y3 : Int32) (y4 : Int32) : Nat → Int32 → Int32 → mM → Option (Int32 × mM)
  | 0, _, _, _ => none
  | n + 1, w5, w6, G =>
    if y1 ≤ w6 then
      some (w5, G)
    else
      (x6_tick G).bind fun q_5 =>
      (x6_deepest q_5).bind fun q_6 =>
      if q_6 ≤ w5 then
        mNm (w6 + (1 : Int32)) fun v_8 =>
        x6_ahead_L32 y1 y2 y3 y4 n w5 v_8 q_5
      else
        (x6_deepest q_5).bind fun q_9 =>
        mNm (w6 + (1 : Int32)) fun v_10 =>
        x6_ahead_L32 y1 y2 y3 y4 n q_9 v_10 q_5
def x6_ahead (x1 : Int32) (x2 : Int32) (G : mM) : Option (Int32 × mM) :=
  (x6_copy 247 82 ((0 : Int32)) 248 82 ((0 : Int32)) G).bind fun q_1 =>
  (x6_other ((5 : Int32)) q_1).bind fun q_2 =>
  (x6_allWaits q_1).bind fun q_3 =>
  (x6_ahead_L32 x1 x2 q_2 q_3 mFu ((0 : Int32)) ((0 : Int32)) q_1).bind fun q_11 =>
  if x2 = 0 then
    (x6_other ((5 : Int32)) q_11.2).bind fun q_21 =>
    mNm (q_21 - q_2) fun v_22 =>
    (x6_copy 248 82 ((0 : Int32)) 247 82 ((0 : Int32)) q_11.2).bind fun q_23 =>
    some (v_22, q_23)
  else
    if x2 = ((1 : Int32)) then
      (x6_deepest q_11.2).bind fun q_19 =>
      (x6_copy 248 82 ((0 : Int32)) 247 82 ((0 : Int32)) q_11.2).bind fun q_20 =>
      some (q_19, q_20)
    else
      if x2 = ((2 : Int32)) then
        (x6_allWaits q_11.2).bind fun q_16 =>
        mNm (q_16 - q_3) fun v_17 =>
        (x6_copy 248 82 ((0 : Int32)) 247 82 ((0 : Int32)) q_11.2).bind fun q_18 =>
        some (v_17, q_18)
      else
        (x6_copy 248 82 ((0 : Int32)) 247 82 ((0 : Int32)) q_11.2).bind fun q_15 =>
        some (q_11.1, q_15)
theorem hd6_ahead : yX6_ahead.cls = RX6 ∧ yX6_ahead.cls ≠ "java/lang/invoke/MethodHandle" ∧ yX6_ahead.cls ≠ "java/lang/invoke/VarHandle" ∧ (parseMethodDescriptor yX6_ahead.desc).map (fun d => d.parameters.length) = some 2 := by decide +kernel
set_option maxHeartbeats 4000000 in
set_option maxRecDepth 100000 in
theorem k6_ahead_32 {p : Program} {l : Launch} {e : Env} {R : Room} {s : State} {m : MethodId} {args : Array Value} {below : List Frame} {meth : Method} {cd : Code} {Q : State → Prop} {E : mE} (X : mX p s m args cd cX6_ahead 7 RX6 E) (hR : 6 ≤ R.frames ∧ 139 ≤ R.locals) (hJ : mJ E) (hy0 : mMo E 246) (y1 : Int32) (y2 : Int32) (y3 : Int32) (y4 : Int32) : ∀ (n : Nat) (w5 : Int32) (w6 : Int32) (G : mM) (H : Heap) (locs : List Loc) (ls : Array Slot) (r : Int32 × mM), x6_ahead_L32 y1 y2 y3 y4 n w5 w6 G = some r → mZ E s.heap H locs G → lv_has ls 7 [(0, .ref (mad E (246))), (1, .int (y1)), (2, .int (y2)), (3, .int (y3)), (4, .int (y4)), (5, .int (w5)), (6, .int (w6))] → (∀ (H : Heap) (locs : List Loc) (ls : Array Slot), mZ E s.heap H locs r.2 → lv_has ls 7 [(0, .ref (mad E (246))), (1, .int (y1)), (2, .int (y2)), (3, .int (y3)), (4, .int (y4)), (5, .int (r.1))] → W p l e R s m args below meth cd H locs 0 0 Q (F0 m 68 ls [])) → W p l e R s m args below meth cd H locs 0 0 Q (F0 m 32 ls []) := by
  have hx := X.1
  have hb := X.2.1
  have hown := X.2.2.2.1
  have hts := X.2.2.2.2.1
  intro n
  induction n with
  | zero =>
    intro w5 w6 G H locs ls r hT
    rw [x6_ahead_L32] at hT
    cases hT
  | succ n ih =>
    intro w5 w6 G H locs ls r hT Z hl k0
    rw [x6_ahead_L32] at hT
    refine lv_iload hx hb dX6_ahead_32 (lv_at hl 6 rfl) ?_
    refine lv_iload_n hx hb dX6_ahead_34 rfl (lv_at hl 1 rfl) ?_
    refine lv_icmp_ge (tgt := 68) hx hb dX6_ahead_35 (by decide) (fun h_4 => ?_) (fun h_4 => ?_)
    · replace hT := mx_t hT h_4
      cases hT
      exact k0 _ _ _ Z (lv_sub hl [0, 1, 2, 3, 4, 5] rfl)
    · replace hT := mx_f hT h_4
      refine lv_aload_n hx hb dX6_ahead_38 rfl (lv_at hl 0 rfl) ?_
      obtain ⟨q_5, h_q_5, hT⟩ := mx_bind hT
      refine mx_callV (As := []) (rest := []) (st1 := []) (C := RX6) (T := TX6) (N := 11) (ci := 6) X Z hl.1 (c6_tick l E hJ hy0 _ _ h_q_5) wd_21_7 wd_21_8 wd_21_9 wd_1_5 wd_21_10 hd6_tick ⟨Nat.le_trans (by decide) hR.1, Nat.le_trans (by decide) hR.2⟩ ⟨Nat.zero_le _, Nat.zero_le _⟩ hy0.i (hy0.c _) rfl (Nat.le_of_ble_eq_true rfl) rfl rfl dX6_ahead_39 (fun H locs Z => ?_)
      refine lv_aload_n hx hb dX6_ahead_42 rfl (lv_at hl 0 rfl) ?_
      obtain ⟨q_6, h_q_6, hT⟩ := mx_bind hT
      refine mx_callV (As := []) (rest := []) (st1 := [.int (q_6)]) (C := RX6) (T := TX6) (N := 11) (ci := 6) X Z hl.1 (c6_deepest l E hJ hy0 _ _ h_q_6) wd_29_12 wd_29_13 wd_29_14 wd_1_5 wd_29_15 hd6_deepest ⟨Nat.le_trans (by decide) hR.1, Nat.le_trans (by decide) hR.2⟩ ⟨Nat.zero_le _, Nat.zero_le _⟩ hy0.i (hy0.c _) rfl (Nat.le_of_ble_eq_true rfl) rfl rfl dX6_ahead_43 (fun H locs Z => ?_)
      refine lv_iload hx hb dX6_ahead_46 (lv_at hl 5 rfl) ?_
      refine lv_icmp_le (tgt := 58) hx hb dX6_ahead_48 (by decide) (fun h_7 => ?_) (fun h_7 => ?_)
      · replace hT := mx_t hT h_7
        refine lv_iload hx hb dX6_ahead_58 (lv_at hl 5 rfl) ?_
        refine lv_istore (lv' := [(5, .int (w5)), (0, .ref (mad E (246))), (1, .int (y1)), (2, .int (y2)), (3, .int (y3)), (4, .int (y4)), (6, .int (w6))]) hx hb dX6_ahead_60 hl (by decide) rfl (fun ls hl => ?_)
        obtain ⟨v_8, e_v_8, hT⟩ := mx_nm hT
        refine lv_iinc (v := v_8) (lv' := [(6, .int (v_8)), (5, .int (w5)), (0, .ref (mad E (246))), (1, .int (y1)), (2, .int (y2)), (3, .int (y3)), (4, .int (y4))]) hx hb dX6_ahead_62 hl (k := 6) rfl (by rw [← e_v_8]; rfl) (by decide) rfl (fun ls hl => ?_)
        refine lv_goto (tgt := 32) hx hb dX6_ahead_65 (by decide) ?_
        exact ih _ _ _ _ _ _ _ hT Z (lv_sub hl [2, 3, 4, 5, 6, 1, 0] rfl) k0
      · replace hT := mx_f hT h_7
        refine lv_aload_n hx hb dX6_ahead_51 rfl (lv_at hl 0 rfl) ?_
        obtain ⟨q_9, h_q_9, hT⟩ := mx_bind hT
        refine mx_callV (As := []) (rest := []) (st1 := [.int (q_9)]) (C := RX6) (T := TX6) (N := 11) (ci := 6) X Z hl.1 (c6_deepest l E hJ hy0 _ _ h_q_9) wd_29_12 wd_29_13 wd_29_14 wd_1_5 wd_29_15 hd6_deepest ⟨Nat.le_trans (by decide) hR.1, Nat.le_trans (by decide) hR.2⟩ ⟨Nat.zero_le _, Nat.zero_le _⟩ hy0.i (hy0.c _) rfl (Nat.le_of_ble_eq_true rfl) rfl rfl dX6_ahead_52 (fun H locs Z => ?_)
        refine lv_goto (tgt := 60) hx hb dX6_ahead_55 (by decide) ?_
        refine lv_istore (lv' := [(5, .int (q_9)), (0, .ref (mad E (246))), (1, .int (y1)), (2, .int (y2)), (3, .int (y3)), (4, .int (y4)), (6, .int (w6))]) hx hb dX6_ahead_60 hl (by decide) rfl (fun ls hl => ?_)
        obtain ⟨v_10, e_v_10, hT⟩ := mx_nm hT
        refine lv_iinc (v := v_10) (lv' := [(6, .int (v_10)), (5, .int (q_9)), (0, .ref (mad E (246))), (1, .int (y1)), (2, .int (y2)), (3, .int (y3)), (4, .int (y4))]) hx hb dX6_ahead_62 hl (k := 6) rfl (by rw [← e_v_10]; rfl) (by decide) rfl (fun ls hl => ?_)
        refine lv_goto (tgt := 32) hx hb dX6_ahead_65 (by decide) ?_
        exact ih _ _ _ _ _ _ _ hT Z (lv_sub hl [2, 3, 4, 5, 6, 1, 0] rfl) k0
set_option maxHeartbeats 4000000 in
set_option maxRecDepth 100000 in
theorem c6_ahead (l : Launch) (E : mE) (hJ : mJ E) (hc : mMo E 246) (x1 : Int32) (x2 : Int32) (G : mM) (q : (Int32 × mM)) (hT : x6_ahead x1 x2 G = some q) : mMet l E yX6_ahead cX6_ahead 7 (some .int) 6 139 [.ref (mad E (246)), .int (x1), .int (x2)] G (some (.int q.1)) q.2 := by
  refine Met.ofW (cc := cX6_ahead) (maxL := 7) (ret := (some .int)) (by decide) rfl ?_
  intro p e s m args below meth cd s₁ B hml hv
  obtain ⟨rfl, hP, hK, hS⟩ := hv
  have X := mx_entry (own := RX6) B hml hK hJ hS rfl
  have hx := X.1
  have hb := X.2.1
  have hown := X.2.2.2.1
  have hts := X.2.2.2.2.1
  have hr := B.returns
  have hlocks := B.notSynchronized
  have hR : 6 ≤ (headSpec (mWs yX6_ahead cX6_ahead 7 (some .int)) ({ frames := 6, cells := 0, slots := 0, locals := 139 })).room.frames ∧ 139 ≤ (headSpec (mWs yX6_ahead cX6_ahead 7 (some .int)) ({ frames := 6, cells := 0, slots := 0, locals := 139 })).room.locals := ⟨Nat.le_refl _, Nat.le_refl _⟩
  have Z : mZ E s.heap s.heap [] G := ⟨hP, va_S.rf⟩
  have hl := lv_entry ([.ref (mad E (246)), .int (x1), .int (x2)]) (n := 7) (Nat.le_of_ble_eq_true rfl)
  rw [lg_entry_eq]
  generalize (lg_sl ([.ref (mad E (246)), .int (x1), .int (x2)]) ++ List.replicate (7 - (lg_sl ([.ref (mad E (246)), .int (x1), .int (x2)])).length) Slot.unset).toArray = ls at hl ⊢
  have hl : lv_has ls 7 [(0, .ref (mad E (246))), (1, .int (x1)), (2, .int (x2))] := hl
  unfold x6_ahead at hT
  refine lv_aload_n hx hb dX6_ahead_0 rfl (lv_at hl 0 rfl) ?_
  refine lv_aload_n hx hb dX6_ahead_1 rfl (lv_at hl 0 rfl) ?_
  refine mx_get (v := .ref (mad E (247))) (ci := 6) (C := RX6) (T := TX6) (N := 11) X Z hc.i (hc.c _) rfl inlX6 0 (by decide) wd_7_23 rfl dX6_ahead_2 ?_
  refine lv_iconst (v := (0 : Int32)) hx hb dX6_ahead_5 (by decide) ?_
  refine lv_aload_n hx hb dX6_ahead_6 rfl (lv_at hl 0 rfl) ?_
  refine mx_get (v := .ref (mad E (248))) (ci := 6) (C := RX6) (T := TX6) (N := 11) X Z hc.i (hc.c _) rfl inlX6 1 (by decide) wd_8_0 rfl dX6_ahead_7 ?_
  refine lv_iconst (v := (0 : Int32)) hx hb dX6_ahead_10 (by decide) ?_
  obtain ⟨q_1, h_q_1, hT⟩ := mx_bind hT
  refine mx_callV (As := [.ref (mad E (247)), .int ((0 : Int32)), .ref (mad E (248)), .int ((0 : Int32))]) (rest := []) (st1 := []) (C := RX6) (T := TX6) (N := 11) (ci := 6) X Z hl.1 (c6_copy l E hJ hc hc.z hc.aside _ _ _ _ h_q_1) wd_13_3 wd_13_4 wd_13_5 wd_1_5 wd_13_6 hd6_copy ⟨Nat.le_trans (by decide) hR.1, Nat.le_trans (by decide) hR.2⟩ ⟨Nat.zero_le _, Nat.zero_le _⟩ hc.i (hc.c _) rfl (Nat.le_of_ble_eq_true rfl) rfl rfl dX6_ahead_11 (fun H locs Z => ?_)
  refine lv_aload_n hx hb dX6_ahead_14 rfl (lv_at hl 0 rfl) ?_
  refine lv_iconst (v := (5 : Int32)) hx hb dX6_ahead_15 (by decide) ?_
  obtain ⟨q_2, h_q_2, hT⟩ := mx_bind hT
  refine mx_callV (As := [.int ((5 : Int32))]) (rest := []) (st1 := [.int (q_2)]) (C := RX6) (T := TX6) (N := 11) (ci := 6) X Z hl.1 (c6_other l E hJ hc _ _ _ h_q_2) wd_14_8 wd_14_9 wd_14_10 wd_1_5 wd_14_11 hd6_other ⟨Nat.le_trans (by decide) hR.1, Nat.le_trans (by decide) hR.2⟩ ⟨Nat.zero_le _, Nat.zero_le _⟩ hc.i (hc.c _) rfl (Nat.le_of_ble_eq_true rfl) rfl rfl dX6_ahead_16 (fun H locs Z => ?_)
  refine lv_istore_n (lv' := [(3, .int (q_2)), (0, .ref (mad E (246))), (1, .int (x1)), (2, .int (x2))]) hx hb dX6_ahead_19 rfl hl (by decide) rfl (fun ls hl => ?_)
  refine lv_aload_n hx hb dX6_ahead_20 rfl (lv_at hl 1 rfl) ?_
  obtain ⟨q_3, h_q_3, hT⟩ := mx_bind hT
  refine mx_callV (As := []) (rest := []) (st1 := [.int (q_3)]) (C := RX6) (T := TX6) (N := 11) (ci := 6) X Z hl.1 (c6_allWaits l E hJ hc _ _ h_q_3) wd_29_16 wd_29_17 wd_29_18 wd_1_5 wd_29_19 hd6_allWaits ⟨Nat.le_trans (by decide) hR.1, Nat.le_trans (by decide) hR.2⟩ ⟨Nat.zero_le _, Nat.zero_le _⟩ hc.i (hc.c _) rfl (Nat.le_of_ble_eq_true rfl) rfl rfl dX6_ahead_21 (fun H locs Z => ?_)
  refine lv_istore (lv' := [(4, .int (q_3)), (3, .int (q_2)), (0, .ref (mad E (246))), (1, .int (x1)), (2, .int (x2))]) hx hb dX6_ahead_24 hl (by decide) rfl (fun ls hl => ?_)
  refine lv_iconst (v := (0 : Int32)) hx hb dX6_ahead_26 (by decide) ?_
  refine lv_istore (lv' := [(5, .int ((0 : Int32))), (4, .int (q_3)), (3, .int (q_2)), (0, .ref (mad E (246))), (1, .int (x1)), (2, .int (x2))]) hx hb dX6_ahead_27 hl (by decide) rfl (fun ls hl => ?_)
  refine lv_iconst (v := (0 : Int32)) hx hb dX6_ahead_29 (by decide) ?_
  refine lv_istore (lv' := [(6, .int ((0 : Int32))), (5, .int ((0 : Int32))), (4, .int (q_3)), (3, .int (q_2)), (0, .ref (mad E (246))), (1, .int (x1)), (2, .int (x2))]) hx hb dX6_ahead_30 hl (by decide) rfl (fun ls hl => ?_)
  obtain ⟨q_11, h_q_11, hT⟩ := mx_bind hT
  refine k6_ahead_32 X hR hJ hc _ _ _ _ _ _ _ _ _ _ _ _ h_q_11 Z (lv_sub (l' := [(0, .ref (mad E (246))), (1, .int (x1)), (2, .int (x2)), (3, .int (q_2)), (4, .int (q_3)), (5, .int ((0 : Int32))), (6, .int ((0 : Int32)))]) hl [4, 5, 6, 3, 2, 1, 0] rfl) (fun H locs ls Z hl => ?_)
  · refine lv_iload_n hx hb dX6_ahead_68 rfl (lv_at hl 2 rfl) ?_
    refine lv_if_ne (tgt := 82) hx hb dX6_ahead_69 (by decide) (fun h_12 => ?_) (fun h_12 => ?_)
    · replace hT := mx_f hT h_12
      refine lv_iload_n hx hb dX6_ahead_82 rfl (lv_at hl 2 rfl) ?_
      refine lv_iconst (v := (1 : Int32)) hx hb dX6_ahead_83 (by decide) ?_
      refine lv_icmp_ne (tgt := 94) hx hb dX6_ahead_84 (by decide) (fun h_13 => ?_) (fun h_13 => ?_)
      · replace hT := mx_f hT h_13
        refine lv_iload_n hx hb dX6_ahead_94 rfl (lv_at hl 2 rfl) ?_
        refine lv_iconst (v := (2 : Int32)) hx hb dX6_ahead_95 (by decide) ?_
        refine lv_icmp_ne (tgt := 109) hx hb dX6_ahead_96 (by decide) (fun h_14 => ?_) (fun h_14 => ?_)
        · replace hT := mx_f hT h_14
          refine lv_iload hx hb dX6_ahead_109 (lv_at hl 5 rfl) ?_
          refine lv_istore (lv' := [(6, .int (q_11.1)), (0, .ref (mad E (246))), (1, .int (x1)), (2, .int (x2)), (3, .int (q_2)), (4, .int (q_3)), (5, .int (q_11.1))]) hx hb dX6_ahead_111 hl (by decide) rfl (fun ls hl => ?_)
          refine lv_aload_n hx hb dX6_ahead_113 rfl (lv_at hl 1 rfl) ?_
          refine lv_aload_n hx hb dX6_ahead_114 rfl (lv_at hl 1 rfl) ?_
          refine mx_get (v := .ref (mad E (248))) (ci := 6) (C := RX6) (T := TX6) (N := 11) X Z hc.i (hc.c _) rfl inlX6 1 (by decide) wd_8_0 rfl dX6_ahead_115 ?_
          refine lv_iconst (v := (0 : Int32)) hx hb dX6_ahead_118 (by decide) ?_
          refine lv_aload_n hx hb dX6_ahead_119 rfl (lv_at hl 1 rfl) ?_
          refine mx_get (v := .ref (mad E (247))) (ci := 6) (C := RX6) (T := TX6) (N := 11) X Z hc.i (hc.c _) rfl inlX6 0 (by decide) wd_7_23 rfl dX6_ahead_120 ?_
          refine lv_iconst (v := (0 : Int32)) hx hb dX6_ahead_123 (by decide) ?_
          obtain ⟨q_15, h_q_15, hT⟩ := mx_bind hT
          refine mx_callV (As := [.ref (mad E (248)), .int ((0 : Int32)), .ref (mad E (247)), .int ((0 : Int32))]) (rest := []) (st1 := []) (C := RX6) (T := TX6) (N := 11) (ci := 6) X Z hl.1 (c6_copy l E hJ hc hc.aside hc.z _ _ _ _ h_q_15) wd_13_3 wd_13_4 wd_13_5 wd_1_5 wd_13_6 hd6_copy ⟨Nat.le_trans (by decide) hR.1, Nat.le_trans (by decide) hR.2⟩ ⟨Nat.zero_le _, Nat.zero_le _⟩ hc.i (hc.c _) rfl (Nat.le_of_ble_eq_true rfl) rfl rfl dX6_ahead_124 (fun H locs Z => ?_)
          refine lv_iload hx hb dX6_ahead_127 (lv_at hl 0 rfl) ?_
          cases hT
          exact W.iret hx hb hr (fun t ht hW => mx_end Z t ht _) Z.2.2.2 dX6_ahead_129
        · replace hT := mx_t hT h_14
          refine lv_aload_n hx hb dX6_ahead_99 rfl (lv_at hl 0 rfl) ?_
          obtain ⟨q_16, h_q_16, hT⟩ := mx_bind hT
          refine mx_callV (As := []) (rest := []) (st1 := [.int (q_16)]) (C := RX6) (T := TX6) (N := 11) (ci := 6) X Z hl.1 (c6_allWaits l E hJ hc _ _ h_q_16) wd_29_16 wd_29_17 wd_29_18 wd_1_5 wd_29_19 hd6_allWaits ⟨Nat.le_trans (by decide) hR.1, Nat.le_trans (by decide) hR.2⟩ ⟨Nat.zero_le _, Nat.zero_le _⟩ hc.i (hc.c _) rfl (Nat.le_of_ble_eq_true rfl) rfl rfl dX6_ahead_100 (fun H locs Z => ?_)
          refine lv_iload hx hb dX6_ahead_103 (lv_at hl 4 rfl) ?_
          refine lv_isub hx hb dX6_ahead_105 ?_
          refine lv_goto (tgt := 111) hx hb dX6_ahead_106 (by decide) ?_
          obtain ⟨v_17, e_v_17, hT⟩ := mx_nm hT
          refine mx_tops (congrArg (fun z => (.int (z) :: [] : List Value)) e_v_17) ?_
          refine lv_istore (lv' := [(6, .int (v_17)), (0, .ref (mad E (246))), (1, .int (x1)), (2, .int (x2)), (3, .int (q_2)), (4, .int (q_3)), (5, .int (q_11.1))]) hx hb dX6_ahead_111 hl (by decide) rfl (fun ls hl => ?_)
          refine lv_aload_n hx hb dX6_ahead_113 rfl (lv_at hl 1 rfl) ?_
          refine lv_aload_n hx hb dX6_ahead_114 rfl (lv_at hl 1 rfl) ?_
          refine mx_get (v := .ref (mad E (248))) (ci := 6) (C := RX6) (T := TX6) (N := 11) X Z hc.i (hc.c _) rfl inlX6 1 (by decide) wd_8_0 rfl dX6_ahead_115 ?_
          refine lv_iconst (v := (0 : Int32)) hx hb dX6_ahead_118 (by decide) ?_
          refine lv_aload_n hx hb dX6_ahead_119 rfl (lv_at hl 1 rfl) ?_
          refine mx_get (v := .ref (mad E (247))) (ci := 6) (C := RX6) (T := TX6) (N := 11) X Z hc.i (hc.c _) rfl inlX6 0 (by decide) wd_7_23 rfl dX6_ahead_120 ?_
          refine lv_iconst (v := (0 : Int32)) hx hb dX6_ahead_123 (by decide) ?_
          obtain ⟨q_18, h_q_18, hT⟩ := mx_bind hT
          refine mx_callV (As := [.ref (mad E (248)), .int ((0 : Int32)), .ref (mad E (247)), .int ((0 : Int32))]) (rest := []) (st1 := []) (C := RX6) (T := TX6) (N := 11) (ci := 6) X Z hl.1 (c6_copy l E hJ hc hc.aside hc.z _ _ _ _ h_q_18) wd_13_3 wd_13_4 wd_13_5 wd_1_5 wd_13_6 hd6_copy ⟨Nat.le_trans (by decide) hR.1, Nat.le_trans (by decide) hR.2⟩ ⟨Nat.zero_le _, Nat.zero_le _⟩ hc.i (hc.c _) rfl (Nat.le_of_ble_eq_true rfl) rfl rfl dX6_ahead_124 (fun H locs Z => ?_)
          refine lv_iload hx hb dX6_ahead_127 (lv_at hl 0 rfl) ?_
          cases hT
          exact W.iret hx hb hr (fun t ht hW => mx_end Z t ht _) Z.2.2.2 dX6_ahead_129
      · replace hT := mx_t hT h_13
        refine lv_aload_n hx hb dX6_ahead_87 rfl (lv_at hl 0 rfl) ?_
        obtain ⟨q_19, h_q_19, hT⟩ := mx_bind hT
        refine mx_callV (As := []) (rest := []) (st1 := [.int (q_19)]) (C := RX6) (T := TX6) (N := 11) (ci := 6) X Z hl.1 (c6_deepest l E hJ hc _ _ h_q_19) wd_29_12 wd_29_13 wd_29_14 wd_1_5 wd_29_15 hd6_deepest ⟨Nat.le_trans (by decide) hR.1, Nat.le_trans (by decide) hR.2⟩ ⟨Nat.zero_le _, Nat.zero_le _⟩ hc.i (hc.c _) rfl (Nat.le_of_ble_eq_true rfl) rfl rfl dX6_ahead_88 (fun H locs Z => ?_)
        refine lv_goto (tgt := 111) hx hb dX6_ahead_91 (by decide) ?_
        refine lv_istore (lv' := [(6, .int (q_19)), (0, .ref (mad E (246))), (1, .int (x1)), (2, .int (x2)), (3, .int (q_2)), (4, .int (q_3)), (5, .int (q_11.1))]) hx hb dX6_ahead_111 hl (by decide) rfl (fun ls hl => ?_)
        refine lv_aload_n hx hb dX6_ahead_113 rfl (lv_at hl 1 rfl) ?_
        refine lv_aload_n hx hb dX6_ahead_114 rfl (lv_at hl 1 rfl) ?_
        refine mx_get (v := .ref (mad E (248))) (ci := 6) (C := RX6) (T := TX6) (N := 11) X Z hc.i (hc.c _) rfl inlX6 1 (by decide) wd_8_0 rfl dX6_ahead_115 ?_
        refine lv_iconst (v := (0 : Int32)) hx hb dX6_ahead_118 (by decide) ?_
        refine lv_aload_n hx hb dX6_ahead_119 rfl (lv_at hl 1 rfl) ?_
        refine mx_get (v := .ref (mad E (247))) (ci := 6) (C := RX6) (T := TX6) (N := 11) X Z hc.i (hc.c _) rfl inlX6 0 (by decide) wd_7_23 rfl dX6_ahead_120 ?_
        refine lv_iconst (v := (0 : Int32)) hx hb dX6_ahead_123 (by decide) ?_
        obtain ⟨q_20, h_q_20, hT⟩ := mx_bind hT
        refine mx_callV (As := [.ref (mad E (248)), .int ((0 : Int32)), .ref (mad E (247)), .int ((0 : Int32))]) (rest := []) (st1 := []) (C := RX6) (T := TX6) (N := 11) (ci := 6) X Z hl.1 (c6_copy l E hJ hc hc.aside hc.z _ _ _ _ h_q_20) wd_13_3 wd_13_4 wd_13_5 wd_1_5 wd_13_6 hd6_copy ⟨Nat.le_trans (by decide) hR.1, Nat.le_trans (by decide) hR.2⟩ ⟨Nat.zero_le _, Nat.zero_le _⟩ hc.i (hc.c _) rfl (Nat.le_of_ble_eq_true rfl) rfl rfl dX6_ahead_124 (fun H locs Z => ?_)
        refine lv_iload hx hb dX6_ahead_127 (lv_at hl 0 rfl) ?_
        cases hT
        exact W.iret hx hb hr (fun t ht hW => mx_end Z t ht _) Z.2.2.2 dX6_ahead_129
    · replace hT := mx_t hT h_12
      refine lv_aload_n hx hb dX6_ahead_72 rfl (lv_at hl 0 rfl) ?_
      refine lv_iconst (v := (5 : Int32)) hx hb dX6_ahead_73 (by decide) ?_
      obtain ⟨q_21, h_q_21, hT⟩ := mx_bind hT
      refine mx_callV (As := [.int ((5 : Int32))]) (rest := []) (st1 := [.int (q_21)]) (C := RX6) (T := TX6) (N := 11) (ci := 6) X Z hl.1 (c6_other l E hJ hc _ _ _ h_q_21) wd_14_8 wd_14_9 wd_14_10 wd_1_5 wd_14_11 hd6_other ⟨Nat.le_trans (by decide) hR.1, Nat.le_trans (by decide) hR.2⟩ ⟨Nat.zero_le _, Nat.zero_le _⟩ hc.i (hc.c _) rfl (Nat.le_of_ble_eq_true rfl) rfl rfl dX6_ahead_74 (fun H locs Z => ?_)
      refine lv_iload_n hx hb dX6_ahead_77 rfl (lv_at hl 3 rfl) ?_
      refine lv_isub hx hb dX6_ahead_78 ?_
      refine lv_goto (tgt := 111) hx hb dX6_ahead_79 (by decide) ?_
      obtain ⟨v_22, e_v_22, hT⟩ := mx_nm hT
      refine mx_tops (congrArg (fun z => (.int (z) :: [] : List Value)) e_v_22) ?_
      refine lv_istore (lv' := [(6, .int (v_22)), (0, .ref (mad E (246))), (1, .int (x1)), (2, .int (x2)), (3, .int (q_2)), (4, .int (q_3)), (5, .int (q_11.1))]) hx hb dX6_ahead_111 hl (by decide) rfl (fun ls hl => ?_)
      refine lv_aload_n hx hb dX6_ahead_113 rfl (lv_at hl 1 rfl) ?_
      refine lv_aload_n hx hb dX6_ahead_114 rfl (lv_at hl 1 rfl) ?_
      refine mx_get (v := .ref (mad E (248))) (ci := 6) (C := RX6) (T := TX6) (N := 11) X Z hc.i (hc.c _) rfl inlX6 1 (by decide) wd_8_0 rfl dX6_ahead_115 ?_
      refine lv_iconst (v := (0 : Int32)) hx hb dX6_ahead_118 (by decide) ?_
      refine lv_aload_n hx hb dX6_ahead_119 rfl (lv_at hl 1 rfl) ?_
      refine mx_get (v := .ref (mad E (247))) (ci := 6) (C := RX6) (T := TX6) (N := 11) X Z hc.i (hc.c _) rfl inlX6 0 (by decide) wd_7_23 rfl dX6_ahead_120 ?_
      refine lv_iconst (v := (0 : Int32)) hx hb dX6_ahead_123 (by decide) ?_
      obtain ⟨q_23, h_q_23, hT⟩ := mx_bind hT
      refine mx_callV (As := [.ref (mad E (248)), .int ((0 : Int32)), .ref (mad E (247)), .int ((0 : Int32))]) (rest := []) (st1 := []) (C := RX6) (T := TX6) (N := 11) (ci := 6) X Z hl.1 (c6_copy l E hJ hc hc.aside hc.z _ _ _ _ h_q_23) wd_13_3 wd_13_4 wd_13_5 wd_1_5 wd_13_6 hd6_copy ⟨Nat.le_trans (by decide) hR.1, Nat.le_trans (by decide) hR.2⟩ ⟨Nat.zero_le _, Nat.zero_le _⟩ hc.i (hc.c _) rfl (Nat.le_of_ble_eq_true rfl) rfl rfl dX6_ahead_124 (fun H locs Z => ?_)
      refine lv_iload hx hb dX6_ahead_127 (lv_at hl 0 rfl) ?_
      cases hT
      exact W.iret hx hb hr (fun t ht hW => mx_end Z t ht _) Z.2.2.2 dX6_ahead_129
/-! PeatRailwayModel.ifRun -/
def x6_ifRun (x1 : Int32) (x2 : Int32) (G : mM) : Option (Int32 × mM) :=
  (x6_within x1 ((1 : Int32)) ((200 : Int32)) G).bind fun q_1 =>
  if q_1 = 0 then
    some ((-2 : Int32), G)
  else
    (x6_within x2 ((0 : Int32)) ((3 : Int32)) G).bind fun q_3 =>
    if q_3 = 0 then
      some ((-2 : Int32), G)
    else
      (x6_ahead x1 x2 G).bind fun q_5 =>
      some (q_5.1, q_5.2)
theorem hd6_ifRun : yX6_ifRun.cls = RX6 ∧ yX6_ifRun.cls ≠ "java/lang/invoke/MethodHandle" ∧ yX6_ifRun.cls ≠ "java/lang/invoke/VarHandle" ∧ (parseMethodDescriptor yX6_ifRun.desc).map (fun d => d.parameters.length) = some 2 := by decide +kernel
set_option maxHeartbeats 4000000 in
set_option maxRecDepth 100000 in
theorem c6_ifRun (l : Launch) (E : mE) (hJ : mJ E) (hc : mMo E 246) (x1 : Int32) (x2 : Int32) (G : mM) (q : (Int32 × mM)) (hT : x6_ifRun x1 x2 G = some q) : mMet l E yX6_ifRun cX6_ifRun 3 (some .int) 7 165 [.ref (mad E (246)), .int (x1), .int (x2)] G (some (.int q.1)) q.2 := by
  refine Met.ofW (cc := cX6_ifRun) (maxL := 3) (ret := (some .int)) (by decide) rfl ?_
  intro p e s m args below meth cd s₁ B hml hv
  obtain ⟨rfl, hP, hK, hS⟩ := hv
  have X := mx_entry (own := RX6) B hml hK hJ hS rfl
  have hx := X.1
  have hb := X.2.1
  have hown := X.2.2.2.1
  have hts := X.2.2.2.2.1
  have hr := B.returns
  have hlocks := B.notSynchronized
  have hR : 7 ≤ (headSpec (mWs yX6_ifRun cX6_ifRun 3 (some .int)) ({ frames := 7, cells := 0, slots := 0, locals := 165 })).room.frames ∧ 165 ≤ (headSpec (mWs yX6_ifRun cX6_ifRun 3 (some .int)) ({ frames := 7, cells := 0, slots := 0, locals := 165 })).room.locals := ⟨Nat.le_refl _, Nat.le_refl _⟩
  have Z : mZ E s.heap s.heap [] G := ⟨hP, va_S.rf⟩
  have hl := lv_entry ([.ref (mad E (246)), .int (x1), .int (x2)]) (n := 3) (Nat.le_of_ble_eq_true rfl)
  rw [lg_entry_eq]
  generalize (lg_sl ([.ref (mad E (246)), .int (x1), .int (x2)]) ++ List.replicate (3 - (lg_sl ([.ref (mad E (246)), .int (x1), .int (x2)])).length) Slot.unset).toArray = ls at hl ⊢
  have hl : lv_has ls 3 [(0, .ref (mad E (246))), (1, .int (x1)), (2, .int (x2))] := hl
  unfold x6_ifRun at hT
  refine lv_iload_n hx hb dX6_ifRun_0 rfl (lv_at hl 1 rfl) ?_
  refine lv_iconst (v := (1 : Int32)) hx hb dX6_ifRun_1 (by decide) ?_
  refine lv_sipush (v := (200 : Int32)) hx hb dX6_ifRun_2 (by decide) ?_
  obtain ⟨q_1, h_q_1, hT⟩ := mx_bind hT
  refine mx_callS (As := [.int (x1), .int ((1 : Int32)), .int ((200 : Int32))]) (rest := []) (st1 := [.int (q_1)]) X Z hl.1 (c6_within l E hJ _ _ _ _ _ h_q_1) wd_9_1 wd_9_2 wd_1_5 wd_9_3 hd6_within ⟨Nat.le_trans (by decide) hR.1, Nat.le_trans (by decide) hR.2⟩ ⟨Nat.zero_le _, Nat.zero_le _⟩ (Nat.le_of_ble_eq_true rfl) rfl rfl dX6_ifRun_5 (fun H locs Z => ?_)
  refine lv_if_eq (tgt := 29) hx hb dX6_ifRun_8 (by decide) (fun h_2 => ?_) (fun h_2 => ?_)
  · replace hT := mx_t hT h_2
    refine lv_bipush (v := (-2 : Int32)) hx hb dX6_ifRun_29 (by decide) ?_
    cases hT
    exact W.iret hx hb hr (fun t ht hW => mx_end Z t ht _) Z.2.2.2 dX6_ifRun_31
  · replace hT := mx_f hT h_2
    refine lv_iload_n hx hb dX6_ifRun_11 rfl (lv_at hl 2 rfl) ?_
    refine lv_iconst (v := (0 : Int32)) hx hb dX6_ifRun_12 (by decide) ?_
    refine lv_iconst (v := (3 : Int32)) hx hb dX6_ifRun_13 (by decide) ?_
    obtain ⟨q_3, h_q_3, hT⟩ := mx_bind hT
    refine mx_callS (As := [.int (x2), .int ((0 : Int32)), .int ((3 : Int32))]) (rest := []) (st1 := [.int (q_3)]) X Z hl.1 (c6_within l E hJ _ _ _ _ _ h_q_3) wd_9_1 wd_9_2 wd_1_5 wd_9_3 hd6_within ⟨Nat.le_trans (by decide) hR.1, Nat.le_trans (by decide) hR.2⟩ ⟨Nat.zero_le _, Nat.zero_le _⟩ (Nat.le_of_ble_eq_true rfl) rfl rfl dX6_ifRun_14 (fun H locs Z => ?_)
    refine lv_if_eq (tgt := 29) hx hb dX6_ifRun_17 (by decide) (fun h_4 => ?_) (fun h_4 => ?_)
    · replace hT := mx_t hT h_4
      refine lv_bipush (v := (-2 : Int32)) hx hb dX6_ifRun_29 (by decide) ?_
      cases hT
      exact W.iret hx hb hr (fun t ht hW => mx_end Z t ht _) Z.2.2.2 dX6_ifRun_31
    · replace hT := mx_f hT h_4
      refine lv_aload_n hx hb dX6_ifRun_20 rfl (lv_at hl 0 rfl) ?_
      refine lv_iload_n hx hb dX6_ifRun_21 rfl (lv_at hl 1 rfl) ?_
      refine lv_iload_n hx hb dX6_ifRun_22 rfl (lv_at hl 2 rfl) ?_
      obtain ⟨q_5, h_q_5, hT⟩ := mx_bind hT
      refine mx_callV (As := [.int (x1), .int (x2)]) (rest := []) (st1 := [.int (q_5.1)]) (C := RX6) (T := TX6) (N := 11) (ci := 6) X Z hl.1 (c6_ahead l E hJ hc _ _ _ _ h_q_5) wd_30_21 wd_30_22 wd_30_23 wd_1_5 wd_31_0 hd6_ahead ⟨Nat.le_trans (by decide) hR.1, Nat.le_trans (by decide) hR.2⟩ ⟨Nat.zero_le _, Nat.zero_le _⟩ hc.i (hc.c _) rfl (Nat.le_of_ble_eq_true rfl) rfl rfl dX6_ifRun_23 (fun H locs Z => ?_)
      refine lv_goto (tgt := 31) hx hb dX6_ifRun_26 (by decide) ?_
      cases hT
      exact W.iret hx hb hr (fun t ht hW => mx_end Z t ht _) Z.2.2.2 dX6_ifRun_31
/-! PeatRailwayModel.ticksUntil -/
def x6_ticksUntil_L24 (y2 : Int32) : Nat → Int32 → mM → Option (Int32 × mM)
  | 0, _, _ => none
  | n + 1, w3, G =>
    if ((500 : Int32)) ≤ w3 then
      some (w3, G)
    else
      (x6_other ((5 : Int32)) G).bind fun q_5 =>
      if y2 ≤ q_5 then
        some (w3, G)
      else
        (x6_tick G).bind fun q_7 =>
        mNm (w3 + (1 : Int32)) fun v_8 =>
        x6_ticksUntil_L24 y2 n v_8 q_7
def x6_ticksUntil (x1 : Int32) (G : mM) : Option (Int32 × mM) :=
  (x6_copy 247 82 ((0 : Int32)) 248 82 ((0 : Int32)) G).bind fun q_1 =>
  (x6_other ((5 : Int32)) q_1).bind fun q_2 =>
  mNm (q_2 + x1) fun v_3 =>
  (x6_ticksUntil_L24 v_3 mFu ((0 : Int32)) q_1).bind fun q_9 =>
  (x6_other ((5 : Int32)) q_9.2).bind fun q_10 =>
  if v_3 ≤ q_10 then
    (x6_copy 248 82 ((0 : Int32)) 247 82 ((0 : Int32)) q_9.2).bind fun q_12 =>
    some (q_9.1, q_12)
  else
    (x6_copy 248 82 ((0 : Int32)) 247 82 ((0 : Int32)) q_9.2).bind fun q_13 =>
    some ((-1 : Int32), q_13)
theorem hd6_ticksUntil : yX6_ticksUntil.cls = RX6 ∧ yX6_ticksUntil.cls ≠ "java/lang/invoke/MethodHandle" ∧ yX6_ticksUntil.cls ≠ "java/lang/invoke/VarHandle" ∧ (parseMethodDescriptor yX6_ticksUntil.desc).map (fun d => d.parameters.length) = some 1 := by decide +kernel
set_option maxHeartbeats 4000000 in
set_option maxRecDepth 100000 in
theorem k6_ticksUntil_24 {p : Program} {l : Launch} {e : Env} {R : Room} {s : State} {m : MethodId} {args : Array Value} {below : List Frame} {meth : Method} {cd : Code} {Q : State → Prop} {E : mE} (X : mX p s m args cd cX6_ticksUntil 5 RX6 E) (hR : 6 ≤ R.frames ∧ 139 ≤ R.locals) (hJ : mJ E) (hy0 : mMo E 246) (y2 : Int32) : ∀ (n : Nat) (w3 : Int32) (G : mM) (H : Heap) (locs : List Loc) (ls : Array Slot) (r : Int32 × mM), x6_ticksUntil_L24 y2 n w3 G = some r → mZ E s.heap H locs G → lv_has ls 5 [(0, .ref (mad E (246))), (2, .int (y2)), (3, .int (w3))] → (∀ (H : Heap) (locs : List Loc) (ls : Array Slot), mZ E s.heap H locs r.2 → lv_has ls 5 [(0, .ref (mad E (246))), (2, .int (y2)), (3, .int (r.1))] → W p l e R s m args below meth cd H locs 0 0 Q (F0 m 50 ls [])) → W p l e R s m args below meth cd H locs 0 0 Q (F0 m 24 ls []) := by
  have hx := X.1
  have hb := X.2.1
  have hown := X.2.2.2.1
  have hts := X.2.2.2.2.1
  intro n
  induction n with
  | zero =>
    intro w3 G H locs ls r hT
    rw [x6_ticksUntil_L24] at hT
    cases hT
  | succ n ih =>
    intro w3 G H locs ls r hT Z hl k0
    rw [x6_ticksUntil_L24] at hT
    refine lv_iload_n hx hb dX6_ticksUntil_24 rfl (lv_at hl 2 rfl) ?_
    refine lv_sipush (v := (500 : Int32)) hx hb dX6_ticksUntil_25 (by decide) ?_
    refine lv_icmp_ge (tgt := 50) hx hb dX6_ticksUntil_28 (by decide) (fun h_4 => ?_) (fun h_4 => ?_)
    · replace hT := mx_t hT h_4
      cases hT
      exact k0 _ _ _ Z (lv_sub hl [0, 1, 2] rfl)
    · replace hT := mx_f hT h_4
      refine lv_aload_n hx hb dX6_ticksUntil_31 rfl (lv_at hl 0 rfl) ?_
      refine lv_iconst (v := (5 : Int32)) hx hb dX6_ticksUntil_32 (by decide) ?_
      obtain ⟨q_5, h_q_5, hT⟩ := mx_bind hT
      refine mx_callV (As := [.int ((5 : Int32))]) (rest := []) (st1 := [.int (q_5)]) (C := RX6) (T := TX6) (N := 11) (ci := 6) X Z hl.1 (c6_other l E hJ hy0 _ _ _ h_q_5) wd_14_8 wd_14_9 wd_14_10 wd_1_5 wd_14_11 hd6_other ⟨Nat.le_trans (by decide) hR.1, Nat.le_trans (by decide) hR.2⟩ ⟨Nat.zero_le _, Nat.zero_le _⟩ hy0.i (hy0.c _) rfl (Nat.le_of_ble_eq_true rfl) rfl rfl dX6_ticksUntil_33 (fun H locs Z => ?_)
      refine lv_iload_n hx hb dX6_ticksUntil_36 rfl (lv_at hl 1 rfl) ?_
      refine lv_icmp_ge (tgt := 50) hx hb dX6_ticksUntil_37 (by decide) (fun h_6 => ?_) (fun h_6 => ?_)
      · replace hT := mx_t hT h_6
        cases hT
        exact k0 _ _ _ Z (lv_sub hl [0, 1, 2] rfl)
      · replace hT := mx_f hT h_6
        refine lv_aload_n hx hb dX6_ticksUntil_40 rfl (lv_at hl 0 rfl) ?_
        obtain ⟨q_7, h_q_7, hT⟩ := mx_bind hT
        refine mx_callV (As := []) (rest := []) (st1 := []) (C := RX6) (T := TX6) (N := 11) (ci := 6) X Z hl.1 (c6_tick l E hJ hy0 _ _ h_q_7) wd_21_7 wd_21_8 wd_21_9 wd_1_5 wd_21_10 hd6_tick ⟨Nat.le_trans (by decide) hR.1, Nat.le_trans (by decide) hR.2⟩ ⟨Nat.zero_le _, Nat.zero_le _⟩ hy0.i (hy0.c _) rfl (Nat.le_of_ble_eq_true rfl) rfl rfl dX6_ticksUntil_41 (fun H locs Z => ?_)
        obtain ⟨v_8, e_v_8, hT⟩ := mx_nm hT
        refine lv_iinc (v := v_8) (lv' := [(3, .int (v_8)), (0, .ref (mad E (246))), (2, .int (y2))]) hx hb dX6_ticksUntil_44 hl (k := 2) rfl (by rw [← e_v_8]; rfl) (by decide) rfl (fun ls hl => ?_)
        refine lv_goto (tgt := 24) hx hb dX6_ticksUntil_47 (by decide) ?_
        exact ih _ _ _ _ _ _ hT Z (lv_sub hl [1, 2, 0] rfl) k0
set_option maxHeartbeats 4000000 in
set_option maxRecDepth 100000 in
theorem c6_ticksUntil (l : Launch) (E : mE) (hJ : mJ E) (hc : mMo E 246) (x1 : Int32) (G : mM) (q : (Int32 × mM)) (hT : x6_ticksUntil x1 G = some q) : mMet l E yX6_ticksUntil cX6_ticksUntil 5 (some .int) 6 139 [.ref (mad E (246)), .int (x1)] G (some (.int q.1)) q.2 := by
  refine Met.ofW (cc := cX6_ticksUntil) (maxL := 5) (ret := (some .int)) (by decide) rfl ?_
  intro p e s m args below meth cd s₁ B hml hv
  obtain ⟨rfl, hP, hK, hS⟩ := hv
  have X := mx_entry (own := RX6) B hml hK hJ hS rfl
  have hx := X.1
  have hb := X.2.1
  have hown := X.2.2.2.1
  have hts := X.2.2.2.2.1
  have hr := B.returns
  have hlocks := B.notSynchronized
  have hR : 6 ≤ (headSpec (mWs yX6_ticksUntil cX6_ticksUntil 5 (some .int)) ({ frames := 6, cells := 0, slots := 0, locals := 139 })).room.frames ∧ 139 ≤ (headSpec (mWs yX6_ticksUntil cX6_ticksUntil 5 (some .int)) ({ frames := 6, cells := 0, slots := 0, locals := 139 })).room.locals := ⟨Nat.le_refl _, Nat.le_refl _⟩
  have Z : mZ E s.heap s.heap [] G := ⟨hP, va_S.rf⟩
  have hl := lv_entry ([.ref (mad E (246)), .int (x1)]) (n := 5) (Nat.le_of_ble_eq_true rfl)
  rw [lg_entry_eq]
  generalize (lg_sl ([.ref (mad E (246)), .int (x1)]) ++ List.replicate (5 - (lg_sl ([.ref (mad E (246)), .int (x1)])).length) Slot.unset).toArray = ls at hl ⊢
  have hl : lv_has ls 5 [(0, .ref (mad E (246))), (1, .int (x1))] := hl
  unfold x6_ticksUntil at hT
  refine lv_aload_n hx hb dX6_ticksUntil_0 rfl (lv_at hl 0 rfl) ?_
  refine lv_aload_n hx hb dX6_ticksUntil_1 rfl (lv_at hl 0 rfl) ?_
  refine mx_get (v := .ref (mad E (247))) (ci := 6) (C := RX6) (T := TX6) (N := 11) X Z hc.i (hc.c _) rfl inlX6 0 (by decide) wd_7_23 rfl dX6_ticksUntil_2 ?_
  refine lv_iconst (v := (0 : Int32)) hx hb dX6_ticksUntil_5 (by decide) ?_
  refine lv_aload_n hx hb dX6_ticksUntil_6 rfl (lv_at hl 0 rfl) ?_
  refine mx_get (v := .ref (mad E (248))) (ci := 6) (C := RX6) (T := TX6) (N := 11) X Z hc.i (hc.c _) rfl inlX6 1 (by decide) wd_8_0 rfl dX6_ticksUntil_7 ?_
  refine lv_iconst (v := (0 : Int32)) hx hb dX6_ticksUntil_10 (by decide) ?_
  obtain ⟨q_1, h_q_1, hT⟩ := mx_bind hT
  refine mx_callV (As := [.ref (mad E (247)), .int ((0 : Int32)), .ref (mad E (248)), .int ((0 : Int32))]) (rest := []) (st1 := []) (C := RX6) (T := TX6) (N := 11) (ci := 6) X Z hl.1 (c6_copy l E hJ hc hc.z hc.aside _ _ _ _ h_q_1) wd_13_3 wd_13_4 wd_13_5 wd_1_5 wd_13_6 hd6_copy ⟨Nat.le_trans (by decide) hR.1, Nat.le_trans (by decide) hR.2⟩ ⟨Nat.zero_le _, Nat.zero_le _⟩ hc.i (hc.c _) rfl (Nat.le_of_ble_eq_true rfl) rfl rfl dX6_ticksUntil_11 (fun H locs Z => ?_)
  refine lv_aload_n hx hb dX6_ticksUntil_14 rfl (lv_at hl 0 rfl) ?_
  refine lv_iconst (v := (5 : Int32)) hx hb dX6_ticksUntil_15 (by decide) ?_
  obtain ⟨q_2, h_q_2, hT⟩ := mx_bind hT
  refine mx_callV (As := [.int ((5 : Int32))]) (rest := []) (st1 := [.int (q_2)]) (C := RX6) (T := TX6) (N := 11) (ci := 6) X Z hl.1 (c6_other l E hJ hc _ _ _ h_q_2) wd_14_8 wd_14_9 wd_14_10 wd_1_5 wd_14_11 hd6_other ⟨Nat.le_trans (by decide) hR.1, Nat.le_trans (by decide) hR.2⟩ ⟨Nat.zero_le _, Nat.zero_le _⟩ hc.i (hc.c _) rfl (Nat.le_of_ble_eq_true rfl) rfl rfl dX6_ticksUntil_16 (fun H locs Z => ?_)
  refine lv_iload_n hx hb dX6_ticksUntil_19 rfl (lv_at hl 1 rfl) ?_
  refine lv_iadd hx hb dX6_ticksUntil_20 ?_
  obtain ⟨v_3, e_v_3, hT⟩ := mx_nm hT
  refine mx_tops (congrArg (fun z => (.int (z) :: [] : List Value)) e_v_3) ?_
  refine lv_istore_n (lv' := [(2, .int (v_3)), (0, .ref (mad E (246))), (1, .int (x1))]) hx hb dX6_ticksUntil_21 rfl hl (by decide) rfl (fun ls hl => ?_)
  refine lv_iconst (v := (0 : Int32)) hx hb dX6_ticksUntil_22 (by decide) ?_
  refine lv_istore_n (lv' := [(3, .int ((0 : Int32))), (2, .int (v_3)), (0, .ref (mad E (246))), (1, .int (x1))]) hx hb dX6_ticksUntil_23 rfl hl (by decide) rfl (fun ls hl => ?_)
  obtain ⟨q_9, h_q_9, hT⟩ := mx_bind hT
  refine k6_ticksUntil_24 X hR hJ hc _ _ _ _ _ _ _ _ h_q_9 Z (lv_sub (l' := [(0, .ref (mad E (246))), (2, .int (v_3)), (3, .int ((0 : Int32)))]) hl [2, 1, 0] rfl) (fun H locs ls Z hl => ?_)
  · refine lv_aload_n hx hb dX6_ticksUntil_50 rfl (lv_at hl 0 rfl) ?_
    refine lv_iconst (v := (5 : Int32)) hx hb dX6_ticksUntil_51 (by decide) ?_
    obtain ⟨q_10, h_q_10, hT⟩ := mx_bind hT
    refine mx_callV (As := [.int ((5 : Int32))]) (rest := []) (st1 := [.int (q_10)]) (C := RX6) (T := TX6) (N := 11) (ci := 6) X Z hl.1 (c6_other l E hJ hc _ _ _ h_q_10) wd_14_8 wd_14_9 wd_14_10 wd_1_5 wd_14_11 hd6_other ⟨Nat.le_trans (by decide) hR.1, Nat.le_trans (by decide) hR.2⟩ ⟨Nat.zero_le _, Nat.zero_le _⟩ hc.i (hc.c _) rfl (Nat.le_of_ble_eq_true rfl) rfl rfl dX6_ticksUntil_52 (fun H locs Z => ?_)
    refine lv_iload_n hx hb dX6_ticksUntil_55 rfl (lv_at hl 1 rfl) ?_
    refine lv_icmp_ge (tgt := 63) hx hb dX6_ticksUntil_56 (by decide) (fun h_11 => ?_) (fun h_11 => ?_)
    · replace hT := mx_t hT h_11
      refine lv_iload_n hx hb dX6_ticksUntil_63 rfl (lv_at hl 2 rfl) ?_
      refine lv_istore (lv' := [(4, .int (q_9.1)), (0, .ref (mad E (246))), (2, .int (v_3)), (3, .int (q_9.1))]) hx hb dX6_ticksUntil_64 hl (by decide) rfl (fun ls hl => ?_)
      refine lv_aload_n hx hb dX6_ticksUntil_66 rfl (lv_at hl 1 rfl) ?_
      refine lv_aload_n hx hb dX6_ticksUntil_67 rfl (lv_at hl 1 rfl) ?_
      refine mx_get (v := .ref (mad E (248))) (ci := 6) (C := RX6) (T := TX6) (N := 11) X Z hc.i (hc.c _) rfl inlX6 1 (by decide) wd_8_0 rfl dX6_ticksUntil_68 ?_
      refine lv_iconst (v := (0 : Int32)) hx hb dX6_ticksUntil_71 (by decide) ?_
      refine lv_aload_n hx hb dX6_ticksUntil_72 rfl (lv_at hl 1 rfl) ?_
      refine mx_get (v := .ref (mad E (247))) (ci := 6) (C := RX6) (T := TX6) (N := 11) X Z hc.i (hc.c _) rfl inlX6 0 (by decide) wd_7_23 rfl dX6_ticksUntil_73 ?_
      refine lv_iconst (v := (0 : Int32)) hx hb dX6_ticksUntil_76 (by decide) ?_
      obtain ⟨q_12, h_q_12, hT⟩ := mx_bind hT
      refine mx_callV (As := [.ref (mad E (248)), .int ((0 : Int32)), .ref (mad E (247)), .int ((0 : Int32))]) (rest := []) (st1 := []) (C := RX6) (T := TX6) (N := 11) (ci := 6) X Z hl.1 (c6_copy l E hJ hc hc.aside hc.z _ _ _ _ h_q_12) wd_13_3 wd_13_4 wd_13_5 wd_1_5 wd_13_6 hd6_copy ⟨Nat.le_trans (by decide) hR.1, Nat.le_trans (by decide) hR.2⟩ ⟨Nat.zero_le _, Nat.zero_le _⟩ hc.i (hc.c _) rfl (Nat.le_of_ble_eq_true rfl) rfl rfl dX6_ticksUntil_77 (fun H locs Z => ?_)
      refine lv_iload hx hb dX6_ticksUntil_80 (lv_at hl 0 rfl) ?_
      cases hT
      exact W.iret hx hb hr (fun t ht hW => mx_end Z t ht _) Z.2.2.2 dX6_ticksUntil_82
    · replace hT := mx_f hT h_11
      refine lv_iconst (v := (-1 : Int32)) hx hb dX6_ticksUntil_59 (by decide) ?_
      refine lv_goto (tgt := 64) hx hb dX6_ticksUntil_60 (by decide) ?_
      refine lv_istore (lv' := [(4, .int ((-1 : Int32))), (0, .ref (mad E (246))), (2, .int (v_3)), (3, .int (q_9.1))]) hx hb dX6_ticksUntil_64 hl (by decide) rfl (fun ls hl => ?_)
      refine lv_aload_n hx hb dX6_ticksUntil_66 rfl (lv_at hl 1 rfl) ?_
      refine lv_aload_n hx hb dX6_ticksUntil_67 rfl (lv_at hl 1 rfl) ?_
      refine mx_get (v := .ref (mad E (248))) (ci := 6) (C := RX6) (T := TX6) (N := 11) X Z hc.i (hc.c _) rfl inlX6 1 (by decide) wd_8_0 rfl dX6_ticksUntil_68 ?_
      refine lv_iconst (v := (0 : Int32)) hx hb dX6_ticksUntil_71 (by decide) ?_
      refine lv_aload_n hx hb dX6_ticksUntil_72 rfl (lv_at hl 1 rfl) ?_
      refine mx_get (v := .ref (mad E (247))) (ci := 6) (C := RX6) (T := TX6) (N := 11) X Z hc.i (hc.c _) rfl inlX6 0 (by decide) wd_7_23 rfl dX6_ticksUntil_73 ?_
      refine lv_iconst (v := (0 : Int32)) hx hb dX6_ticksUntil_76 (by decide) ?_
      obtain ⟨q_13, h_q_13, hT⟩ := mx_bind hT
      refine mx_callV (As := [.ref (mad E (248)), .int ((0 : Int32)), .ref (mad E (247)), .int ((0 : Int32))]) (rest := []) (st1 := []) (C := RX6) (T := TX6) (N := 11) (ci := 6) X Z hl.1 (c6_copy l E hJ hc hc.aside hc.z _ _ _ _ h_q_13) wd_13_3 wd_13_4 wd_13_5 wd_1_5 wd_13_6 hd6_copy ⟨Nat.le_trans (by decide) hR.1, Nat.le_trans (by decide) hR.2⟩ ⟨Nat.zero_le _, Nat.zero_le _⟩ hc.i (hc.c _) rfl (Nat.le_of_ble_eq_true rfl) rfl rfl dX6_ticksUntil_77 (fun H locs Z => ?_)
      refine lv_iload hx hb dX6_ticksUntil_80 (lv_at hl 0 rfl) ?_
      cases hT
      exact W.iret hx hb hr (fun t ht hW => mx_end Z t ht _) Z.2.2.2 dX6_ticksUntil_82
/-! PeatRailwayModel.ticksFor -/
def x6_ticksFor (x1 : Int32) (G : mM) : Option (Int32 × mM) :=
  (x6_within x1 ((1 : Int32)) ((1000 : Int32)) G).bind fun q_1 =>
  if q_1 = 0 then
    some ((-2 : Int32), G)
  else
    (x6_ticksUntil x1 G).bind fun q_3 =>
    some (q_3.1, q_3.2)
theorem hd6_ticksFor : yX6_ticksFor.cls = RX6 ∧ yX6_ticksFor.cls ≠ "java/lang/invoke/MethodHandle" ∧ yX6_ticksFor.cls ≠ "java/lang/invoke/VarHandle" ∧ (parseMethodDescriptor yX6_ticksFor.desc).map (fun d => d.parameters.length) = some 1 := by decide +kernel
set_option maxHeartbeats 4000000 in
set_option maxRecDepth 100000 in
theorem c6_ticksFor (l : Launch) (E : mE) (hJ : mJ E) (hc : mMo E 246) (x1 : Int32) (G : mM) (q : (Int32 × mM)) (hT : x6_ticksFor x1 G = some q) : mMet l E yX6_ticksFor cX6_ticksFor 2 (some .int) 7 163 [.ref (mad E (246)), .int (x1)] G (some (.int q.1)) q.2 := by
  refine Met.ofW (cc := cX6_ticksFor) (maxL := 2) (ret := (some .int)) (by decide) rfl ?_
  intro p e s m args below meth cd s₁ B hml hv
  obtain ⟨rfl, hP, hK, hS⟩ := hv
  have X := mx_entry (own := RX6) B hml hK hJ hS rfl
  have hx := X.1
  have hb := X.2.1
  have hown := X.2.2.2.1
  have hts := X.2.2.2.2.1
  have hr := B.returns
  have hlocks := B.notSynchronized
  have hR : 7 ≤ (headSpec (mWs yX6_ticksFor cX6_ticksFor 2 (some .int)) ({ frames := 7, cells := 0, slots := 0, locals := 163 })).room.frames ∧ 163 ≤ (headSpec (mWs yX6_ticksFor cX6_ticksFor 2 (some .int)) ({ frames := 7, cells := 0, slots := 0, locals := 163 })).room.locals := ⟨Nat.le_refl _, Nat.le_refl _⟩
  have Z : mZ E s.heap s.heap [] G := ⟨hP, va_S.rf⟩
  have hl := lv_entry ([.ref (mad E (246)), .int (x1)]) (n := 2) (Nat.le_of_ble_eq_true rfl)
  rw [lg_entry_eq]
  generalize (lg_sl ([.ref (mad E (246)), .int (x1)]) ++ List.replicate (2 - (lg_sl ([.ref (mad E (246)), .int (x1)])).length) Slot.unset).toArray = ls at hl ⊢
  have hl : lv_has ls 2 [(0, .ref (mad E (246))), (1, .int (x1))] := hl
  unfold x6_ticksFor at hT
  refine lv_iload_n hx hb dX6_ticksFor_0 rfl (lv_at hl 1 rfl) ?_
  refine lv_iconst (v := (1 : Int32)) hx hb dX6_ticksFor_1 (by decide) ?_
  refine lv_sipush (v := (1000 : Int32)) hx hb dX6_ticksFor_2 (by decide) ?_
  obtain ⟨q_1, h_q_1, hT⟩ := mx_bind hT
  refine mx_callS (As := [.int (x1), .int ((1 : Int32)), .int ((1000 : Int32))]) (rest := []) (st1 := [.int (q_1)]) X Z hl.1 (c6_within l E hJ _ _ _ _ _ h_q_1) wd_9_1 wd_9_2 wd_1_5 wd_9_3 hd6_within ⟨Nat.le_trans (by decide) hR.1, Nat.le_trans (by decide) hR.2⟩ ⟨Nat.zero_le _, Nat.zero_le _⟩ (Nat.le_of_ble_eq_true rfl) rfl rfl dX6_ticksFor_5 (fun H locs Z => ?_)
  refine lv_if_eq (tgt := 19) hx hb dX6_ticksFor_8 (by decide) (fun h_2 => ?_) (fun h_2 => ?_)
  · replace hT := mx_t hT h_2
    refine lv_bipush (v := (-2 : Int32)) hx hb dX6_ticksFor_19 (by decide) ?_
    cases hT
    exact W.iret hx hb hr (fun t ht hW => mx_end Z t ht _) Z.2.2.2 dX6_ticksFor_21
  · replace hT := mx_f hT h_2
    refine lv_aload_n hx hb dX6_ticksFor_11 rfl (lv_at hl 0 rfl) ?_
    refine lv_iload_n hx hb dX6_ticksFor_12 rfl (lv_at hl 1 rfl) ?_
    obtain ⟨q_3, h_q_3, hT⟩ := mx_bind hT
    refine mx_callV (As := [.int (x1)]) (rest := []) (st1 := [.int (q_3.1)]) (C := RX6) (T := TX6) (N := 11) (ci := 6) X Z hl.1 (c6_ticksUntil l E hJ hc _ _ _ h_q_3) wd_31_10 wd_31_11 wd_31_12 wd_1_5 wd_31_13 hd6_ticksUntil ⟨Nat.le_trans (by decide) hR.1, Nat.le_trans (by decide) hR.2⟩ ⟨Nat.zero_le _, Nat.zero_le _⟩ hc.i (hc.c _) rfl (Nat.le_of_ble_eq_true rfl) rfl rfl dX6_ticksFor_13 (fun H locs Z => ?_)
    refine lv_goto (tgt := 21) hx hb dX6_ticksFor_16 (by decide) ?_
    cases hT
    exact W.iret hx hb hr (fun t ht hW => mx_end Z t ht _) Z.2.2.2 dX6_ticksFor_21
/-! PeatRailwayModel.best -/
def x6_best_L17 (y1 : Int32) (y3 : Int32) (y4 : Int32) (y5 : Int32) : Nat → Int32 → Int32 → Int32 → mM → Option (Int32 × mM)
  | 0, _, _, _, _ => none
  | n + 1, w6, w7, w8, G =>
    if y3 < w8 then
      some (w6, G)
    else
      mCk (mIn y1 82) <|
      mNm (up2 G 247 y1.toNatClampNeg w8) fun G_5 =>
      (x6_ahead y4 ((0 : Int32)) G_5).bind fun q_6 =>
      if q_6.1 ≤ w7 then
        if q_6.1 ≤ w7 then
          mNm (w8 + (1 : Int32)) fun v_9 =>
          x6_best_L17 y1 y3 y4 y5 n w6 w7 v_9 q_6.2
        else
          mNm (w8 + (1 : Int32)) fun v_10 =>
          x6_best_L17 y1 y3 y4 y5 n w6 q_6.1 v_10 q_6.2
      else
        if q_6.1 ≤ w7 then
          mNm (w8 + (1 : Int32)) fun v_12 =>
          x6_best_L17 y1 y3 y4 y5 n w8 w7 v_12 q_6.2
        else
          mNm (w8 + (1 : Int32)) fun v_13 =>
          x6_best_L17 y1 y3 y4 y5 n w8 q_6.1 v_13 q_6.2
def x6_best (x1 : Int32) (x2 : Int32) (x3 : Int32) (x4 : Int32) (G : mM) : Option (Int32 × mM) :=
  mCk (mIn x1 82) <|
  mNm (G 247 x1.toNatClampNeg) fun v_2 =>
  (x6_best_L17 x1 x3 x4 v_2 mFu x2 ((-1 : Int32)) x2 G).bind fun q_14 =>
  mCk (mIn x1 82) <|
  mNm (up2 q_14.2 247 x1.toNatClampNeg v_2) fun G_16 =>
  some (q_14.1, G_16)
theorem hd6_best : yX6_best.cls = RX6 ∧ yX6_best.cls ≠ "java/lang/invoke/MethodHandle" ∧ yX6_best.cls ≠ "java/lang/invoke/VarHandle" ∧ (parseMethodDescriptor yX6_best.desc).map (fun d => d.parameters.length) = some 4 := by decide +kernel
set_option maxHeartbeats 4000000 in
set_option maxRecDepth 100000 in
theorem k6_best_17 {p : Program} {l : Launch} {e : Env} {R : Room} {s : State} {m : MethodId} {args : Array Value} {below : List Frame} {meth : Method} {cd : Code} {Q : State → Prop} {E : mE} (X : mX p s m args cd cX6_best 10 RX6 E) (hR : 7 ≤ R.frames ∧ 165 ≤ R.locals) (hJ : mJ E) (hy0 : mMo E 246) (y1 : Int32) (y3 : Int32) (y4 : Int32) (y5 : Int32) : ∀ (n : Nat) (w6 : Int32) (w7 : Int32) (w8 : Int32) (G : mM) (H : Heap) (locs : List Loc) (ls : Array Slot) (r : Int32 × mM), x6_best_L17 y1 y3 y4 y5 n w6 w7 w8 G = some r → mZ E s.heap H locs G → lv_has ls 10 [(0, .ref (mad E (246))), (1, .int (y1)), (3, .int (y3)), (4, .int (y4)), (5, .int (y5)), (6, .int (w6)), (7, .int (w7)), (8, .int (w8))] → (∀ (H : Heap) (locs : List Loc) (ls : Array Slot), mZ E s.heap H locs r.2 → lv_has ls 10 [(0, .ref (mad E (246))), (1, .int (y1)), (3, .int (y3)), (4, .int (y4)), (5, .int (y5)), (6, .int (r.1))] → W p l e R s m args below meth cd H locs 0 0 Q (F0 m 78 ls [])) → W p l e R s m args below meth cd H locs 0 0 Q (F0 m 17 ls []) := by
  have hx := X.1
  have hb := X.2.1
  have hown := X.2.2.2.1
  have hts := X.2.2.2.2.1
  intro n
  induction n with
  | zero =>
    intro w6 w7 w8 G H locs ls r hT
    rw [x6_best_L17] at hT
    cases hT
  | succ n ih =>
    intro w6 w7 w8 G H locs ls r hT Z hl k0
    rw [x6_best_L17] at hT
    refine lv_iload hx hb dX6_best_17 (lv_at hl 7 rfl) ?_
    refine lv_iload_n hx hb dX6_best_19 rfl (lv_at hl 2 rfl) ?_
    refine lv_icmp_gt (tgt := 78) hx hb dX6_best_20 (by decide) (fun h_3 => ?_) (fun h_3 => ?_)
    · replace hT := mx_t hT h_3
      cases hT
      exact k0 _ _ _ Z (lv_sub hl [0, 1, 2, 3, 4, 5] rfl)
    · replace hT := mx_f hT h_3
      refine lv_aload_n hx hb dX6_best_23 rfl (lv_at hl 0 rfl) ?_
      refine mx_get (v := .ref (mad E (247))) (ci := 6) (C := RX6) (T := TX6) (N := 11) X Z hy0.i (hy0.c _) rfl inlX6 0 (by decide) wd_7_23 rfl dX6_best_24 ?_
      refine lv_iload_n hx hb dX6_best_27 rfl (lv_at hl 1 rfl) ?_
      refine lv_iload hx hb dX6_best_28 (lv_at hl 7 rfl) ?_
      obtain ⟨h_4, hT⟩ := mx_chk hT
      obtain ⟨G_5, e_G_5, hT⟩ := mx_nm hT
      refine mx_iast X Z hy0.z h_4 dX6_best_30 (fun H locs Z => ?_)
      rw [e_G_5] at Z
      refine lv_aload_n hx hb dX6_best_31 rfl (lv_at hl 0 rfl) ?_
      refine lv_iload hx hb dX6_best_32 (lv_at hl 3 rfl) ?_
      refine lv_iconst (v := (0 : Int32)) hx hb dX6_best_34 (by decide) ?_
      obtain ⟨q_6, h_q_6, hT⟩ := mx_bind hT
      refine mx_callV (As := [.int (y4), .int ((0 : Int32))]) (rest := []) (st1 := [.int (q_6.1)]) (C := RX6) (T := TX6) (N := 11) (ci := 6) X Z hl.1 (c6_ahead l E hJ hy0 _ _ _ _ h_q_6) wd_30_21 wd_30_22 wd_30_23 wd_1_5 wd_31_0 hd6_ahead ⟨Nat.le_trans (by decide) hR.1, Nat.le_trans (by decide) hR.2⟩ ⟨Nat.zero_le _, Nat.zero_le _⟩ hy0.i (hy0.c _) rfl (Nat.le_of_ble_eq_true rfl) rfl rfl dX6_best_35 (fun H locs Z => ?_)
      refine lv_istore (lv' := [(9, .int (q_6.1)), (0, .ref (mad E (246))), (1, .int (y1)), (3, .int (y3)), (4, .int (y4)), (5, .int (y5)), (6, .int (w6)), (7, .int (w7)), (8, .int (w8))]) hx hb dX6_best_38 hl (by decide) rfl (fun ls hl => ?_)
      refine lv_iload hx hb dX6_best_40 (lv_at hl 0 rfl) ?_
      refine lv_iload hx hb dX6_best_42 (lv_at hl 7 rfl) ?_
      refine lv_icmp_le (tgt := 52) hx hb dX6_best_44 (by decide) (fun h_7 => ?_) (fun h_7 => ?_)
      · replace hT := mx_t hT h_7
        refine lv_iload hx hb dX6_best_52 (lv_at hl 6 rfl) ?_
        refine lv_istore (lv' := [(6, .int (w6)), (9, .int (q_6.1)), (0, .ref (mad E (246))), (1, .int (y1)), (3, .int (y3)), (4, .int (y4)), (5, .int (y5)), (7, .int (w7)), (8, .int (w8))]) hx hb dX6_best_54 hl (by decide) rfl (fun ls hl => ?_)
        refine lv_iload hx hb dX6_best_56 (lv_at hl 1 rfl) ?_
        refine lv_iload hx hb dX6_best_58 (lv_at hl 7 rfl) ?_
        refine lv_icmp_le (tgt := 68) hx hb dX6_best_60 (by decide) (fun h_8 => ?_) (fun h_8 => ?_)
        · replace hT := mx_t hT h_8
          refine lv_iload hx hb dX6_best_68 (lv_at hl 7 rfl) ?_
          refine lv_istore (lv' := [(7, .int (w7)), (6, .int (w6)), (9, .int (q_6.1)), (0, .ref (mad E (246))), (1, .int (y1)), (3, .int (y3)), (4, .int (y4)), (5, .int (y5)), (8, .int (w8))]) hx hb dX6_best_70 hl (by decide) rfl (fun ls hl => ?_)
          obtain ⟨v_9, e_v_9, hT⟩ := mx_nm hT
          refine lv_iinc (v := v_9) (lv' := [(8, .int (v_9)), (7, .int (w7)), (6, .int (w6)), (9, .int (q_6.1)), (0, .ref (mad E (246))), (1, .int (y1)), (3, .int (y3)), (4, .int (y4)), (5, .int (y5))]) hx hb dX6_best_72 hl (k := 8) rfl (by rw [← e_v_9]; rfl) (by decide) rfl (fun ls hl => ?_)
          refine lv_goto (tgt := 17) hx hb dX6_best_75 (by decide) ?_
          exact ih _ _ _ _ _ _ _ _ hT Z (lv_sub hl [4, 5, 6, 7, 8, 2, 1, 0] rfl) k0
        · replace hT := mx_f hT h_8
          refine lv_iload hx hb dX6_best_63 (lv_at hl 1 rfl) ?_
          refine lv_goto (tgt := 70) hx hb dX6_best_65 (by decide) ?_
          refine lv_istore (lv' := [(7, .int (q_6.1)), (6, .int (w6)), (9, .int (q_6.1)), (0, .ref (mad E (246))), (1, .int (y1)), (3, .int (y3)), (4, .int (y4)), (5, .int (y5)), (8, .int (w8))]) hx hb dX6_best_70 hl (by decide) rfl (fun ls hl => ?_)
          obtain ⟨v_10, e_v_10, hT⟩ := mx_nm hT
          refine lv_iinc (v := v_10) (lv' := [(8, .int (v_10)), (7, .int (q_6.1)), (6, .int (w6)), (9, .int (q_6.1)), (0, .ref (mad E (246))), (1, .int (y1)), (3, .int (y3)), (4, .int (y4)), (5, .int (y5))]) hx hb dX6_best_72 hl (k := 8) rfl (by rw [← e_v_10]; rfl) (by decide) rfl (fun ls hl => ?_)
          refine lv_goto (tgt := 17) hx hb dX6_best_75 (by decide) ?_
          exact ih _ _ _ _ _ _ _ _ hT Z (lv_sub hl [4, 5, 6, 7, 8, 2, 1, 0] rfl) k0
      · replace hT := mx_f hT h_7
        refine lv_iload hx hb dX6_best_47 (lv_at hl 8 rfl) ?_
        refine lv_goto (tgt := 54) hx hb dX6_best_49 (by decide) ?_
        refine lv_istore (lv' := [(6, .int (w8)), (9, .int (q_6.1)), (0, .ref (mad E (246))), (1, .int (y1)), (3, .int (y3)), (4, .int (y4)), (5, .int (y5)), (7, .int (w7)), (8, .int (w8))]) hx hb dX6_best_54 hl (by decide) rfl (fun ls hl => ?_)
        refine lv_iload hx hb dX6_best_56 (lv_at hl 1 rfl) ?_
        refine lv_iload hx hb dX6_best_58 (lv_at hl 7 rfl) ?_
        refine lv_icmp_le (tgt := 68) hx hb dX6_best_60 (by decide) (fun h_11 => ?_) (fun h_11 => ?_)
        · replace hT := mx_t hT h_11
          refine lv_iload hx hb dX6_best_68 (lv_at hl 7 rfl) ?_
          refine lv_istore (lv' := [(7, .int (w7)), (6, .int (w8)), (9, .int (q_6.1)), (0, .ref (mad E (246))), (1, .int (y1)), (3, .int (y3)), (4, .int (y4)), (5, .int (y5)), (8, .int (w8))]) hx hb dX6_best_70 hl (by decide) rfl (fun ls hl => ?_)
          obtain ⟨v_12, e_v_12, hT⟩ := mx_nm hT
          refine lv_iinc (v := v_12) (lv' := [(8, .int (v_12)), (7, .int (w7)), (6, .int (w8)), (9, .int (q_6.1)), (0, .ref (mad E (246))), (1, .int (y1)), (3, .int (y3)), (4, .int (y4)), (5, .int (y5))]) hx hb dX6_best_72 hl (k := 8) rfl (by rw [← e_v_12]; rfl) (by decide) rfl (fun ls hl => ?_)
          refine lv_goto (tgt := 17) hx hb dX6_best_75 (by decide) ?_
          exact ih _ _ _ _ _ _ _ _ hT Z (lv_sub hl [4, 5, 6, 7, 8, 2, 1, 0] rfl) k0
        · replace hT := mx_f hT h_11
          refine lv_iload hx hb dX6_best_63 (lv_at hl 1 rfl) ?_
          refine lv_goto (tgt := 70) hx hb dX6_best_65 (by decide) ?_
          refine lv_istore (lv' := [(7, .int (q_6.1)), (6, .int (w8)), (9, .int (q_6.1)), (0, .ref (mad E (246))), (1, .int (y1)), (3, .int (y3)), (4, .int (y4)), (5, .int (y5)), (8, .int (w8))]) hx hb dX6_best_70 hl (by decide) rfl (fun ls hl => ?_)
          obtain ⟨v_13, e_v_13, hT⟩ := mx_nm hT
          refine lv_iinc (v := v_13) (lv' := [(8, .int (v_13)), (7, .int (q_6.1)), (6, .int (w8)), (9, .int (q_6.1)), (0, .ref (mad E (246))), (1, .int (y1)), (3, .int (y3)), (4, .int (y4)), (5, .int (y5))]) hx hb dX6_best_72 hl (k := 8) rfl (by rw [← e_v_13]; rfl) (by decide) rfl (fun ls hl => ?_)
          refine lv_goto (tgt := 17) hx hb dX6_best_75 (by decide) ?_
          exact ih _ _ _ _ _ _ _ _ hT Z (lv_sub hl [4, 5, 6, 7, 8, 2, 1, 0] rfl) k0
set_option maxHeartbeats 4000000 in
set_option maxRecDepth 100000 in
theorem c6_best (l : Launch) (E : mE) (hJ : mJ E) (hc : mMo E 246) (x1 : Int32) (x2 : Int32) (x3 : Int32) (x4 : Int32) (G : mM) (q : (Int32 × mM)) (hT : x6_best x1 x2 x3 x4 G = some q) : mMet l E yX6_best cX6_best 10 (some .int) 7 165 [.ref (mad E (246)), .int (x1), .int (x2), .int (x3), .int (x4)] G (some (.int q.1)) q.2 := by
  refine Met.ofW (cc := cX6_best) (maxL := 10) (ret := (some .int)) (by decide) rfl ?_
  intro p e s m args below meth cd s₁ B hml hv
  obtain ⟨rfl, hP, hK, hS⟩ := hv
  have X := mx_entry (own := RX6) B hml hK hJ hS rfl
  have hx := X.1
  have hb := X.2.1
  have hown := X.2.2.2.1
  have hts := X.2.2.2.2.1
  have hr := B.returns
  have hlocks := B.notSynchronized
  have hR : 7 ≤ (headSpec (mWs yX6_best cX6_best 10 (some .int)) ({ frames := 7, cells := 0, slots := 0, locals := 165 })).room.frames ∧ 165 ≤ (headSpec (mWs yX6_best cX6_best 10 (some .int)) ({ frames := 7, cells := 0, slots := 0, locals := 165 })).room.locals := ⟨Nat.le_refl _, Nat.le_refl _⟩
  have Z : mZ E s.heap s.heap [] G := ⟨hP, va_S.rf⟩
  have hl := lv_entry ([.ref (mad E (246)), .int (x1), .int (x2), .int (x3), .int (x4)]) (n := 10) (Nat.le_of_ble_eq_true rfl)
  rw [lg_entry_eq]
  generalize (lg_sl ([.ref (mad E (246)), .int (x1), .int (x2), .int (x3), .int (x4)]) ++ List.replicate (10 - (lg_sl ([.ref (mad E (246)), .int (x1), .int (x2), .int (x3), .int (x4)])).length) Slot.unset).toArray = ls at hl ⊢
  have hl : lv_has ls 10 [(0, .ref (mad E (246))), (1, .int (x1)), (2, .int (x2)), (3, .int (x3)), (4, .int (x4))] := hl
  unfold x6_best at hT
  refine lv_aload_n hx hb dX6_best_0 rfl (lv_at hl 0 rfl) ?_
  refine mx_get (v := .ref (mad E (247))) (ci := 6) (C := RX6) (T := TX6) (N := 11) X Z hc.i (hc.c _) rfl inlX6 0 (by decide) wd_7_23 rfl dX6_best_1 ?_
  refine lv_iload_n hx hb dX6_best_4 rfl (lv_at hl 1 rfl) ?_
  obtain ⟨h_1, hT⟩ := mx_chk hT
  refine mx_iald X Z hc.z h_1 dX6_best_5 ?_
  obtain ⟨v_2, e_v_2, hT⟩ := mx_nm hT
  refine mx_tops (congrArg (fun z => (.int (z) :: [] : List Value)) e_v_2) ?_
  refine lv_istore (lv' := [(5, .int (v_2)), (0, .ref (mad E (246))), (1, .int (x1)), (2, .int (x2)), (3, .int (x3)), (4, .int (x4))]) hx hb dX6_best_6 hl (by decide) rfl (fun ls hl => ?_)
  refine lv_iload_n hx hb dX6_best_8 rfl (lv_at hl 3 rfl) ?_
  refine lv_istore (lv' := [(6, .int (x2)), (5, .int (v_2)), (0, .ref (mad E (246))), (1, .int (x1)), (2, .int (x2)), (3, .int (x3)), (4, .int (x4))]) hx hb dX6_best_9 hl (by decide) rfl (fun ls hl => ?_)
  refine lv_iconst (v := (-1 : Int32)) hx hb dX6_best_11 (by decide) ?_
  refine lv_istore (lv' := [(7, .int ((-1 : Int32))), (6, .int (x2)), (5, .int (v_2)), (0, .ref (mad E (246))), (1, .int (x1)), (2, .int (x2)), (3, .int (x3)), (4, .int (x4))]) hx hb dX6_best_12 hl (by decide) rfl (fun ls hl => ?_)
  refine lv_iload_n hx hb dX6_best_14 rfl (lv_at hl 5 rfl) ?_
  refine lv_istore (lv' := [(8, .int (x2)), (7, .int ((-1 : Int32))), (6, .int (x2)), (5, .int (v_2)), (0, .ref (mad E (246))), (1, .int (x1)), (2, .int (x2)), (3, .int (x3)), (4, .int (x4))]) hx hb dX6_best_15 hl (by decide) rfl (fun ls hl => ?_)
  obtain ⟨q_14, h_q_14, hT⟩ := mx_bind hT
  refine k6_best_17 X hR hJ hc _ _ _ _ _ _ _ _ _ _ _ _ _ h_q_14 Z (lv_sub (l' := [(0, .ref (mad E (246))), (1, .int (x1)), (3, .int (x3)), (4, .int (x4)), (5, .int (v_2)), (6, .int (x2)), (7, .int ((-1 : Int32))), (8, .int (x2))]) hl [4, 5, 7, 8, 3, 2, 1, 0] rfl) (fun H locs ls Z hl => ?_)
  · refine lv_aload_n hx hb dX6_best_78 rfl (lv_at hl 0 rfl) ?_
    refine mx_get (v := .ref (mad E (247))) (ci := 6) (C := RX6) (T := TX6) (N := 11) X Z hc.i (hc.c _) rfl inlX6 0 (by decide) wd_7_23 rfl dX6_best_79 ?_
    refine lv_iload_n hx hb dX6_best_82 rfl (lv_at hl 1 rfl) ?_
    refine lv_iload hx hb dX6_best_83 (lv_at hl 4 rfl) ?_
    obtain ⟨h_15, hT⟩ := mx_chk hT
    obtain ⟨G_16, e_G_16, hT⟩ := mx_nm hT
    refine mx_iast X Z hc.z h_15 dX6_best_85 (fun H locs Z => ?_)
    rw [e_G_16] at Z
    refine lv_iload hx hb dX6_best_86 (lv_at hl 5 rfl) ?_
    cases hT
    exact W.iret hx hb hr (fun t ht hW => mx_end Z t ht _) Z.2.2.2 dX6_best_88
/-! PeatRailwayModel.bestRule -/
def x6_bestRule (x1 : Int32) (G : mM) : Option (Int32 × mM) :=
  (x6_within x1 ((1 : Int32)) ((200 : Int32)) G).bind fun q_1 =>
  if q_1 = 0 then
    some ((-2 : Int32), G)
  else
    (x6_best ((77 : Int32)) ((0 : Int32)) ((2 : Int32)) x1 G).bind fun q_3 =>
    some (q_3.1, q_3.2)
theorem hd6_bestRule : yX6_bestRule.cls = RX6 ∧ yX6_bestRule.cls ≠ "java/lang/invoke/MethodHandle" ∧ yX6_bestRule.cls ≠ "java/lang/invoke/VarHandle" ∧ (parseMethodDescriptor yX6_bestRule.desc).map (fun d => d.parameters.length) = some 1 := by decide +kernel
set_option maxHeartbeats 4000000 in
set_option maxRecDepth 100000 in
theorem c6_bestRule (l : Launch) (E : mE) (hJ : mJ E) (hc : mMo E 246) (x1 : Int32) (G : mM) (q : (Int32 × mM)) (hT : x6_bestRule x1 G = some q) : mMet l E yX6_bestRule cX6_bestRule 2 (some .int) 8 194 [.ref (mad E (246)), .int (x1)] G (some (.int q.1)) q.2 := by
  refine Met.ofW (cc := cX6_bestRule) (maxL := 2) (ret := (some .int)) (by decide) rfl ?_
  intro p e s m args below meth cd s₁ B hml hv
  obtain ⟨rfl, hP, hK, hS⟩ := hv
  have X := mx_entry (own := RX6) B hml hK hJ hS rfl
  have hx := X.1
  have hb := X.2.1
  have hown := X.2.2.2.1
  have hts := X.2.2.2.2.1
  have hr := B.returns
  have hlocks := B.notSynchronized
  have hR : 8 ≤ (headSpec (mWs yX6_bestRule cX6_bestRule 2 (some .int)) ({ frames := 8, cells := 0, slots := 0, locals := 194 })).room.frames ∧ 194 ≤ (headSpec (mWs yX6_bestRule cX6_bestRule 2 (some .int)) ({ frames := 8, cells := 0, slots := 0, locals := 194 })).room.locals := ⟨Nat.le_refl _, Nat.le_refl _⟩
  have Z : mZ E s.heap s.heap [] G := ⟨hP, va_S.rf⟩
  have hl := lv_entry ([.ref (mad E (246)), .int (x1)]) (n := 2) (Nat.le_of_ble_eq_true rfl)
  rw [lg_entry_eq]
  generalize (lg_sl ([.ref (mad E (246)), .int (x1)]) ++ List.replicate (2 - (lg_sl ([.ref (mad E (246)), .int (x1)])).length) Slot.unset).toArray = ls at hl ⊢
  have hl : lv_has ls 2 [(0, .ref (mad E (246))), (1, .int (x1))] := hl
  unfold x6_bestRule at hT
  refine lv_iload_n hx hb dX6_bestRule_0 rfl (lv_at hl 1 rfl) ?_
  refine lv_iconst (v := (1 : Int32)) hx hb dX6_bestRule_1 (by decide) ?_
  refine lv_sipush (v := (200 : Int32)) hx hb dX6_bestRule_2 (by decide) ?_
  obtain ⟨q_1, h_q_1, hT⟩ := mx_bind hT
  refine mx_callS (As := [.int (x1), .int ((1 : Int32)), .int ((200 : Int32))]) (rest := []) (st1 := [.int (q_1)]) X Z hl.1 (c6_within l E hJ _ _ _ _ _ h_q_1) wd_9_1 wd_9_2 wd_1_5 wd_9_3 hd6_within ⟨Nat.le_trans (by decide) hR.1, Nat.le_trans (by decide) hR.2⟩ ⟨Nat.zero_le _, Nat.zero_le _⟩ (Nat.le_of_ble_eq_true rfl) rfl rfl dX6_bestRule_5 (fun H locs Z => ?_)
  refine lv_if_eq (tgt := 23) hx hb dX6_bestRule_8 (by decide) (fun h_2 => ?_) (fun h_2 => ?_)
  · replace hT := mx_t hT h_2
    refine lv_bipush (v := (-2 : Int32)) hx hb dX6_bestRule_23 (by decide) ?_
    cases hT
    exact W.iret hx hb hr (fun t ht hW => mx_end Z t ht _) Z.2.2.2 dX6_bestRule_25
  · replace hT := mx_f hT h_2
    refine lv_aload_n hx hb dX6_bestRule_11 rfl (lv_at hl 0 rfl) ?_
    refine lv_bipush (v := (77 : Int32)) hx hb dX6_bestRule_12 (by decide) ?_
    refine lv_iconst (v := (0 : Int32)) hx hb dX6_bestRule_14 (by decide) ?_
    refine lv_iconst (v := (2 : Int32)) hx hb dX6_bestRule_15 (by decide) ?_
    refine lv_iload_n hx hb dX6_bestRule_16 rfl (lv_at hl 1 rfl) ?_
    obtain ⟨q_3, h_q_3, hT⟩ := mx_bind hT
    refine mx_callV (As := [.int ((77 : Int32)), .int ((0 : Int32)), .int ((2 : Int32)), .int (x1)]) (rest := []) (st1 := [.int (q_3.1)]) (C := RX6) (T := TX6) (N := 11) (ci := 6) X Z hl.1 (c6_best l E hJ hc _ _ _ _ _ _ h_q_3) wd_31_22 wd_31_23 wd_32_0 wd_1_5 wd_32_1 hd6_best ⟨Nat.le_trans (by decide) hR.1, Nat.le_trans (by decide) hR.2⟩ ⟨Nat.zero_le _, Nat.zero_le _⟩ hc.i (hc.c _) rfl (Nat.le_of_ble_eq_true rfl) rfl rfl dX6_bestRule_17 (fun H locs Z => ?_)
    refine lv_goto (tgt := 25) hx hb dX6_bestRule_20 (by decide) ?_
    cases hT
    exact W.iret hx hb hr (fun t ht hW => mx_end Z t ht _) Z.2.2.2 dX6_bestRule_25
/-! PeatRailwayModel.bestLoad -/
def x6_bestLoad (x1 : Int32) (x2 : Int32) (G : mM) : Option (Int32 × mM) :=
  (x6_isTrain x1 G).bind fun q_1 =>
  if q_1 = 0 then
    some ((-2 : Int32), G)
  else
    (x6_within x2 ((1 : Int32)) ((200 : Int32)) G).bind fun q_3 =>
    if q_3 = 0 then
      some ((-2 : Int32), G)
    else
      (x6_best ((((36 : Int32)) + (((9 : Int32)) * x1)) + ((1 : Int32))) ((1 : Int32)) ((20 : Int32)) x2 G).bind fun q_5 =>
      some (q_5.1, q_5.2)
theorem hd6_bestLoad : yX6_bestLoad.cls = RX6 ∧ yX6_bestLoad.cls ≠ "java/lang/invoke/MethodHandle" ∧ yX6_bestLoad.cls ≠ "java/lang/invoke/VarHandle" ∧ (parseMethodDescriptor yX6_bestLoad.desc).map (fun d => d.parameters.length) = some 2 := by decide +kernel
set_option maxHeartbeats 4000000 in
set_option maxRecDepth 100000 in
theorem c6_bestLoad (l : Launch) (E : mE) (hJ : mJ E) (hc : mMo E 246) (x1 : Int32) (x2 : Int32) (G : mM) (q : (Int32 × mM)) (hT : x6_bestLoad x1 x2 G = some q) : mMet l E yX6_bestLoad cX6_bestLoad 3 (some .int) 8 194 [.ref (mad E (246)), .int (x1), .int (x2)] G (some (.int q.1)) q.2 := by
  refine Met.ofW (cc := cX6_bestLoad) (maxL := 3) (ret := (some .int)) (by decide) rfl ?_
  intro p e s m args below meth cd s₁ B hml hv
  obtain ⟨rfl, hP, hK, hS⟩ := hv
  have X := mx_entry (own := RX6) B hml hK hJ hS rfl
  have hx := X.1
  have hb := X.2.1
  have hown := X.2.2.2.1
  have hts := X.2.2.2.2.1
  have hr := B.returns
  have hlocks := B.notSynchronized
  have hR : 8 ≤ (headSpec (mWs yX6_bestLoad cX6_bestLoad 3 (some .int)) ({ frames := 8, cells := 0, slots := 0, locals := 194 })).room.frames ∧ 194 ≤ (headSpec (mWs yX6_bestLoad cX6_bestLoad 3 (some .int)) ({ frames := 8, cells := 0, slots := 0, locals := 194 })).room.locals := ⟨Nat.le_refl _, Nat.le_refl _⟩
  have Z : mZ E s.heap s.heap [] G := ⟨hP, va_S.rf⟩
  have hl := lv_entry ([.ref (mad E (246)), .int (x1), .int (x2)]) (n := 3) (Nat.le_of_ble_eq_true rfl)
  rw [lg_entry_eq]
  generalize (lg_sl ([.ref (mad E (246)), .int (x1), .int (x2)]) ++ List.replicate (3 - (lg_sl ([.ref (mad E (246)), .int (x1), .int (x2)])).length) Slot.unset).toArray = ls at hl ⊢
  have hl : lv_has ls 3 [(0, .ref (mad E (246))), (1, .int (x1)), (2, .int (x2))] := hl
  unfold x6_bestLoad at hT
  refine lv_aload_n hx hb dX6_bestLoad_0 rfl (lv_at hl 0 rfl) ?_
  refine lv_iload_n hx hb dX6_bestLoad_1 rfl (lv_at hl 1 rfl) ?_
  obtain ⟨q_1, h_q_1, hT⟩ := mx_bind hT
  refine mx_callV (As := [.int (x1)]) (rest := []) (st1 := [.int (q_1)]) (C := RX6) (T := TX6) (N := 11) (ci := 6) X Z hl.1 (c6_isTrain l E hJ hc _ _ _ h_q_1) wd_16_12 wd_16_13 wd_16_14 wd_1_5 wd_16_15 hd6_isTrain ⟨Nat.le_trans (by decide) hR.1, Nat.le_trans (by decide) hR.2⟩ ⟨Nat.zero_le _, Nat.zero_le _⟩ hc.i (hc.c _) rfl (Nat.le_of_ble_eq_true rfl) rfl rfl dX6_bestLoad_2 (fun H locs Z => ?_)
  refine lv_if_eq (tgt := 39) hx hb dX6_bestLoad_5 (by decide) (fun h_2 => ?_) (fun h_2 => ?_)
  · replace hT := mx_t hT h_2
    refine lv_bipush (v := (-2 : Int32)) hx hb dX6_bestLoad_39 (by decide) ?_
    cases hT
    exact W.iret hx hb hr (fun t ht hW => mx_end Z t ht _) Z.2.2.2 dX6_bestLoad_41
  · replace hT := mx_f hT h_2
    refine lv_iload_n hx hb dX6_bestLoad_8 rfl (lv_at hl 2 rfl) ?_
    refine lv_iconst (v := (1 : Int32)) hx hb dX6_bestLoad_9 (by decide) ?_
    refine lv_sipush (v := (200 : Int32)) hx hb dX6_bestLoad_10 (by decide) ?_
    obtain ⟨q_3, h_q_3, hT⟩ := mx_bind hT
    refine mx_callS (As := [.int (x2), .int ((1 : Int32)), .int ((200 : Int32))]) (rest := []) (st1 := [.int (q_3)]) X Z hl.1 (c6_within l E hJ _ _ _ _ _ h_q_3) wd_9_1 wd_9_2 wd_1_5 wd_9_3 hd6_within ⟨Nat.le_trans (by decide) hR.1, Nat.le_trans (by decide) hR.2⟩ ⟨Nat.zero_le _, Nat.zero_le _⟩ (Nat.le_of_ble_eq_true rfl) rfl rfl dX6_bestLoad_13 (fun H locs Z => ?_)
    refine lv_if_eq (tgt := 39) hx hb dX6_bestLoad_16 (by decide) (fun h_4 => ?_) (fun h_4 => ?_)
    · replace hT := mx_t hT h_4
      refine lv_bipush (v := (-2 : Int32)) hx hb dX6_bestLoad_39 (by decide) ?_
      cases hT
      exact W.iret hx hb hr (fun t ht hW => mx_end Z t ht _) Z.2.2.2 dX6_bestLoad_41
    · replace hT := mx_f hT h_4
      refine lv_aload_n hx hb dX6_bestLoad_19 rfl (lv_at hl 0 rfl) ?_
      refine lv_bipush (v := (36 : Int32)) hx hb dX6_bestLoad_20 (by decide) ?_
      refine lv_bipush (v := (9 : Int32)) hx hb dX6_bestLoad_22 (by decide) ?_
      refine lv_iload_n hx hb dX6_bestLoad_24 rfl (lv_at hl 1 rfl) ?_
      refine lv_imul hx hb dX6_bestLoad_25 ?_
      refine lv_iadd hx hb dX6_bestLoad_26 ?_
      refine lv_iconst (v := (1 : Int32)) hx hb dX6_bestLoad_27 (by decide) ?_
      refine lv_iadd hx hb dX6_bestLoad_28 ?_
      refine lv_iconst (v := (1 : Int32)) hx hb dX6_bestLoad_29 (by decide) ?_
      refine lv_bipush (v := (20 : Int32)) hx hb dX6_bestLoad_30 (by decide) ?_
      refine lv_iload_n hx hb dX6_bestLoad_32 rfl (lv_at hl 2 rfl) ?_
      obtain ⟨q_5, h_q_5, hT⟩ := mx_bind hT
      refine mx_callV (As := [.int ((((36 : Int32)) + (((9 : Int32)) * x1)) + ((1 : Int32))), .int ((1 : Int32)), .int ((20 : Int32)), .int (x2)]) (rest := []) (st1 := [.int (q_5.1)]) (C := RX6) (T := TX6) (N := 11) (ci := 6) X Z hl.1 (c6_best l E hJ hc _ _ _ _ _ _ h_q_5) wd_31_22 wd_31_23 wd_32_0 wd_1_5 wd_32_1 hd6_best ⟨Nat.le_trans (by decide) hR.1, Nat.le_trans (by decide) hR.2⟩ ⟨Nat.zero_le _, Nat.zero_le _⟩ hc.i (hc.c _) rfl (Nat.le_of_ble_eq_true rfl) rfl rfl dX6_bestLoad_33 (fun H locs Z => ?_)
      refine lv_goto (tgt := 41) hx hb dX6_bestLoad_36 (by decide) ?_
      cases hT
      exact W.iret hx hb hr (fun t ht hW => mx_end Z t ht _) Z.2.2.2 dX6_bestLoad_41
/-! PeatRailwayModel.meanSinking -/
def x6_meanSinking_L4 : Nat → Int32 → Int32 → mM → Option (Int32)
  | 0, _, _, _ => none
  | n + 1, w1, w2, G =>
    if (G 247 72) ≤ w2 then
      some (w1)
    else
      (x6_seg w2 ((2 : Int32)) G).bind fun q_2 =>
      mNm (w1 + q_2) fun v_3 =>
      mNm (w2 + (1 : Int32)) fun v_4 =>
      x6_meanSinking_L4 n v_3 v_4 G
def x6_meanSinking (G : mM) : Option UInt64 :=
  (x6_meanSinking_L4 mFu ((0 : Int32)) ((0 : Int32)) G).bind fun q_5 =>
  mCk (mNN (FP.ddiv (FP.i2d q_5) (FP.i2d (G 247 72)))) <|
  some (FP.ddiv (FP.i2d q_5) (FP.i2d (G 247 72)))
theorem hd6_meanSinking : yX6_meanSinking.cls = RX6 ∧ yX6_meanSinking.cls ≠ "java/lang/invoke/MethodHandle" ∧ yX6_meanSinking.cls ≠ "java/lang/invoke/VarHandle" ∧ (parseMethodDescriptor yX6_meanSinking.desc).map (fun d => d.parameters.length) = some 0 := by decide +kernel
set_option maxHeartbeats 4000000 in
set_option maxRecDepth 100000 in
theorem k6_meanSinking_4 {p : Program} {l : Launch} {e : Env} {R : Room} {s : State} {m : MethodId} {args : Array Value} {below : List Frame} {meth : Method} {cd : Code} {Q : State → Prop} {E : mE} (X : mX p s m args cd cX6_meanSinking 3 RX6 E) (hR : 1 ≤ R.frames ∧ 22 ≤ R.locals) (hJ : mJ E) (hy0 : mMo E 246) : ∀ (n : Nat) (w1 : Int32) (w2 : Int32) (G : mM) (H : Heap) (locs : List Loc) (ls : Array Slot) (r : Int32), x6_meanSinking_L4 n w1 w2 G = some r → mZ E s.heap H locs G → lv_has ls 3 [(0, .ref (mad E (246))), (1, .int (w1)), (2, .int (w2))] → (∀ (H : Heap) (locs : List Loc) (ls : Array Slot), mZ E s.heap H locs G → lv_has ls 3 [(0, .ref (mad E (246))), (1, .int (r))] → W p l e R s m args below meth cd H locs 0 0 Q (F0 m 30 ls [])) → W p l e R s m args below meth cd H locs 0 0 Q (F0 m 4 ls []) := by
  have hx := X.1
  have hb := X.2.1
  have hown := X.2.2.2.1
  have hts := X.2.2.2.2.1
  intro n
  induction n with
  | zero =>
    intro w1 w2 G H locs ls r hT
    rw [x6_meanSinking_L4] at hT
    cases hT
  | succ n ih =>
    intro w1 w2 G H locs ls r hT Z hl k0
    rw [x6_meanSinking_L4] at hT
    refine lv_iload_n hx hb dX6_meanSinking_4 rfl (lv_at hl 2 rfl) ?_
    refine lv_aload_n hx hb dX6_meanSinking_5 rfl (lv_at hl 0 rfl) ?_
    refine mx_get (v := .ref (mad E (247))) (ci := 6) (C := RX6) (T := TX6) (N := 11) X Z hy0.i (hy0.c _) rfl inlX6 0 (by decide) wd_7_23 rfl dX6_meanSinking_6 ?_
    refine lv_bipush (v := (72 : Int32)) hx hb dX6_meanSinking_9 (by decide) ?_
    refine mx_iald X Z hy0.z (mx_lit (by decide)) dX6_meanSinking_11 ?_
    refine mx_tops (s2 := [.int (G 247 72), .int (w2)]) rfl ?_
    refine lv_icmp_ge (tgt := 30) hx hb dX6_meanSinking_12 (by decide) (fun h_1 => ?_) (fun h_1 => ?_)
    · replace hT := mx_t hT h_1
      cases hT
      exact k0 _ _ _ Z (lv_sub hl [0, 1] rfl)
    · replace hT := mx_f hT h_1
      refine lv_iload_n hx hb dX6_meanSinking_15 rfl (lv_at hl 1 rfl) ?_
      refine lv_aload_n hx hb dX6_meanSinking_16 rfl (lv_at hl 0 rfl) ?_
      refine lv_iload_n hx hb dX6_meanSinking_17 rfl (lv_at hl 2 rfl) ?_
      refine lv_iconst (v := (2 : Int32)) hx hb dX6_meanSinking_18 (by decide) ?_
      obtain ⟨q_2, h_q_2, hT⟩ := mx_bind hT
      refine mx_callV (As := [.int (w2), .int ((2 : Int32))]) (rest := [.int (w1)]) (st1 := [.int (q_2), .int (w1)]) (C := RX6) (T := TX6) (N := 11) (ci := 6) X Z hl.1 (c6_seg l E hJ hy0 _ _ _ _ h_q_2) wd_21_23 wd_22_0 wd_22_1 wd_1_5 wd_22_2 hd6_seg ⟨Nat.le_trans (by decide) hR.1, Nat.le_trans (by decide) hR.2⟩ ⟨Nat.zero_le _, Nat.zero_le _⟩ hy0.i (hy0.c _) rfl (Nat.le_of_ble_eq_true rfl) rfl rfl dX6_meanSinking_19 (fun H locs Z => ?_)
      refine lv_iadd hx hb dX6_meanSinking_22 ?_
      obtain ⟨v_3, e_v_3, hT⟩ := mx_nm hT
      refine mx_tops (congrArg (fun z => (.int (z) :: [] : List Value)) e_v_3) ?_
      refine lv_istore_n (lv' := [(1, .int (v_3)), (0, .ref (mad E (246))), (2, .int (w2))]) hx hb dX6_meanSinking_23 rfl hl (by decide) rfl (fun ls hl => ?_)
      obtain ⟨v_4, e_v_4, hT⟩ := mx_nm hT
      refine lv_iinc (v := v_4) (lv' := [(2, .int (v_4)), (1, .int (v_3)), (0, .ref (mad E (246)))]) hx hb dX6_meanSinking_24 hl (k := 2) rfl (by rw [← e_v_4]; rfl) (by decide) rfl (fun ls hl => ?_)
      refine lv_goto (tgt := 4) hx hb dX6_meanSinking_27 (by decide) ?_
      exact ih _ _ _ _ _ _ _ hT Z (lv_sub hl [2, 1, 0] rfl) k0
set_option maxHeartbeats 4000000 in
set_option maxRecDepth 100000 in
theorem c6_meanSinking (l : Launch) (E : mE) (hJ : mJ E) (hc : mMo E 246) (G : mM) (q : UInt64) (hT : x6_meanSinking G = some q) : mMet l E yX6_meanSinking cX6_meanSinking 3 (some .double) 1 22 [.ref (mad E (246))] G (some (.double q)) G := by
  refine Met.ofW (cc := cX6_meanSinking) (maxL := 3) (ret := (some .double)) (by decide) rfl ?_
  intro p e s m args below meth cd s₁ B hml hv
  obtain ⟨rfl, hP, hK, hS⟩ := hv
  have X := mx_entry (own := RX6) B hml hK hJ hS rfl
  have hx := X.1
  have hb := X.2.1
  have hown := X.2.2.2.1
  have hts := X.2.2.2.2.1
  have hr := B.returns
  have hlocks := B.notSynchronized
  have hR : 1 ≤ (headSpec (mWs yX6_meanSinking cX6_meanSinking 3 (some .double)) ({ frames := 1, cells := 0, slots := 0, locals := 22 })).room.frames ∧ 22 ≤ (headSpec (mWs yX6_meanSinking cX6_meanSinking 3 (some .double)) ({ frames := 1, cells := 0, slots := 0, locals := 22 })).room.locals := ⟨Nat.le_refl _, Nat.le_refl _⟩
  have Z : mZ E s.heap s.heap [] G := ⟨hP, va_S.rf⟩
  have hl := lv_entry ([.ref (mad E (246))]) (n := 3) (Nat.le_of_ble_eq_true rfl)
  rw [lg_entry_eq]
  generalize (lg_sl ([.ref (mad E (246))]) ++ List.replicate (3 - (lg_sl ([.ref (mad E (246))])).length) Slot.unset).toArray = ls at hl ⊢
  have hl : lv_has ls 3 [(0, .ref (mad E (246)))] := hl
  unfold x6_meanSinking at hT
  refine lv_iconst (v := (0 : Int32)) hx hb dX6_meanSinking_0 (by decide) ?_
  refine lv_istore_n (lv' := [(1, .int ((0 : Int32))), (0, .ref (mad E (246)))]) hx hb dX6_meanSinking_1 rfl hl (by decide) rfl (fun ls hl => ?_)
  refine lv_iconst (v := (0 : Int32)) hx hb dX6_meanSinking_2 (by decide) ?_
  refine lv_istore_n (lv' := [(2, .int ((0 : Int32))), (1, .int ((0 : Int32))), (0, .ref (mad E (246)))]) hx hb dX6_meanSinking_3 rfl hl (by decide) rfl (fun ls hl => ?_)
  obtain ⟨q_5, h_q_5, hT⟩ := mx_bind hT
  refine k6_meanSinking_4 X hR hJ hc  _ _ _ _ _ _ _ _ h_q_5 Z (lv_sub (l' := [(0, .ref (mad E (246))), (1, .int ((0 : Int32))), (2, .int ((0 : Int32)))]) hl [2, 1, 0] rfl) (fun H locs ls Z hl => ?_)
  · refine lv_iload_n hx hb dX6_meanSinking_30 rfl (lv_at hl 1 rfl) ?_
    refine lv_i2d hx hb dX6_meanSinking_31 ?_
    refine lv_aload_n hx hb dX6_meanSinking_32 rfl (lv_at hl 0 rfl) ?_
    refine mx_get (v := .ref (mad E (247))) (ci := 6) (C := RX6) (T := TX6) (N := 11) X Z hc.i (hc.c _) rfl inlX6 0 (by decide) wd_7_23 rfl dX6_meanSinking_33 ?_
    refine lv_bipush (v := (72 : Int32)) hx hb dX6_meanSinking_36 (by decide) ?_
    refine mx_iald X Z hc.z (mx_lit (by decide)) dX6_meanSinking_38 ?_
    refine mx_tops (s2 := [.int (G 247 72), .double (FP.i2d q_5)]) rfl ?_
    refine lv_i2d hx hb dX6_meanSinking_39 ?_
    obtain ⟨h_6, hT⟩ := mx_chk hT
    refine lv_ddiv hx hb dX6_meanSinking_40 h_6 ?_
    cases hT
    exact W.dret hx hb hr (fun t ht hW => mx_end Z t ht _) Z.2.2.2 dX6_meanSinking_41
/-! PeatRailwayModel.mix -/
def x6_mix (x1 : Int64) (G : mM) : Option mM :=
  mNm (upL G 246 ((((31 : Int64)) * (mLong (G 246 10) (G 246 11))) + x1)) fun G_1 =>
  some (G_1)
theorem hd6_mix : yX6_mix.cls = RX6 ∧ yX6_mix.cls ≠ "java/lang/invoke/MethodHandle" ∧ yX6_mix.cls ≠ "java/lang/invoke/VarHandle" ∧ (parseMethodDescriptor yX6_mix.desc).map (fun d => d.parameters.length) = some 1 := by decide +kernel
set_option maxHeartbeats 4000000 in
set_option maxRecDepth 100000 in
theorem c6_mix (l : Launch) (E : mE) (hJ : mJ E) (hc : mMo E 246) (x1 : Int64) (G : mM) (q : mM) (hT : x6_mix x1 G = some q) : mMet l E yX6_mix cX6_mix 3 none 0 0 [.ref (mad E (246)), .long (x1)] G (none) q := by
  refine Met.ofW (cc := cX6_mix) (maxL := 3) (ret := none) (by decide) rfl ?_
  intro p e s m args below meth cd s₁ B hml hv
  obtain ⟨rfl, hP, hK, hS⟩ := hv
  have X := mx_entry (own := RX6) B hml hK hJ hS rfl
  have hx := X.1
  have hb := X.2.1
  have hown := X.2.2.2.1
  have hts := X.2.2.2.2.1
  have hr := B.returns
  have hlocks := B.notSynchronized
  have hR : 0 ≤ (headSpec (mWs yX6_mix cX6_mix 3 none) ({ frames := 0, cells := 0, slots := 0, locals := 0 })).room.frames ∧ 0 ≤ (headSpec (mWs yX6_mix cX6_mix 3 none) ({ frames := 0, cells := 0, slots := 0, locals := 0 })).room.locals := ⟨Nat.le_refl _, Nat.le_refl _⟩
  have Z : mZ E s.heap s.heap [] G := ⟨hP, va_S.rf⟩
  have hl := lv_entry ([.ref (mad E (246)), .long (x1)]) (n := 3) (Nat.le_of_ble_eq_true rfl)
  rw [lg_entry_eq]
  generalize (lg_sl ([.ref (mad E (246)), .long (x1)]) ++ List.replicate (3 - (lg_sl ([.ref (mad E (246)), .long (x1)])).length) Slot.unset).toArray = ls at hl ⊢
  have hl : lv_has ls 3 [(0, .ref (mad E (246))), (1, .long (x1))] := hl
  unfold x6_mix at hT
  refine lv_aload_n hx hb dX6_mix_0 rfl (lv_at hl 0 rfl) ?_
  refine lv_ldc2 (v := (31 : Int64)) hx hb hown (hts _ wd_34_15) dX6_mix_1 ?_
  refine lv_aload_n hx hb dX6_mix_4 rfl (lv_at hl 0 rfl) ?_
  refine mx_get (v := .long (mLong (G 246 10) (G 246 11))) (ci := 6) (C := RX6) (T := TX6) (N := 11) X Z hc.i (hc.c _) rfl inlX6 10 (by decide) wd_34_10 rfl dX6_mix_5 ?_
  refine lv_lmul hx hb dX6_mix_8 ?_
  refine lv_lload_n hx hb dX6_mix_9 rfl (lv_at hl 1 rfl) ?_
  refine lv_ladd hx hb dX6_mix_10 ?_
  obtain ⟨G_1, e_G_1, hT⟩ := mx_nm hT
  refine mx_putl (G' := upL G 246 ((((31 : Int64)) * (mLong (G 246 10) (G 246 11))) + x1)) (ci := 6) (C := RX6) (T := TX6) (N := 11) X Z hc.i (hc.c _) rfl inlX6 tyX6 tyX6_ok nmX6 10 (by decide) wd_34_10 rfl rfl rfl (by show 10 < 11; decide) ((hc.c _).trans (congrArg (fun z => Sum.inr (6, z)) (sp_Mo_10 (mad E) _ _ _))) (fun c h => upL_other h) dX6_mix_11 (fun H locs Z => ?_)
  rw [e_G_1] at Z
  cases hT
  exact W.vret hx hb hr (fun t ht hW => mx_end Z t ht _) Z.2.2.2 dX6_mix_14
