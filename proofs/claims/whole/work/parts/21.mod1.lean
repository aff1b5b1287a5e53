/-! PeatRailwayModel.setLoad -/
def x6_setLoad (x1 : Int32) (x2 : Int32) (G : mM) : Option (Int32 × mM) :=
  (x6_isTrain x1 G).bind fun q_1 =>
  if q_1 = 0 then
    some ((-2 : Int32), G)
  else
    (x6_within x2 ((1 : Int32)) ((20 : Int32)) G).bind fun q_3 =>
    if q_3 = 0 then
      some ((-2 : Int32), G)
    else
      (x6_record G).bind fun q_5 =>
      (x6_of x1 ((1 : Int32)) q_5).bind fun q_6 =>
      (x6_put x1 ((1 : Int32)) x2 q_5).bind fun q_7 =>
      some (q_6, q_7)
theorem hd6_setLoad : yX6_setLoad.cls = RX6 ∧ yX6_setLoad.cls ≠ "java/lang/invoke/MethodHandle" ∧ yX6_setLoad.cls ≠ "java/lang/invoke/VarHandle" ∧ (parseMethodDescriptor yX6_setLoad.desc).map (fun d => d.parameters.length) = some 2 := by decide +kernel
set_option maxHeartbeats 4000000 in
set_option maxRecDepth 100000 in
theorem c6_setLoad (l : Launch) (E : mE) (hJ : mJ E) (hc : mMo E 246) (x1 : Int32) (x2 : Int32) (G : mM) (q : (Int32 × mM)) (hT : x6_setLoad x1 x2 G = some q) : mMet l E yX6_setLoad cX6_setLoad 4 (some .int) 2 46 [.ref (mad E (246)), .int (x1), .int (x2)] G (some (.int q.1)) q.2 := by
  refine Met.ofW (cc := cX6_setLoad) (maxL := 4) (ret := (some .int)) (by decide) rfl ?_
  intro p e s m args below meth cd s₁ B hml hv
  obtain ⟨rfl, hP, hK, hS⟩ := hv
  have X := mx_entry (own := RX6) B hml hK hJ hS rfl
  have hx := X.1
  have hb := X.2.1
  have hown := X.2.2.2.1
  have hts := X.2.2.2.2.1
  have hr := B.returns
  have hlocks := B.notSynchronized
  have hR : 2 ≤ (headSpec (mWs yX6_setLoad cX6_setLoad 4 (some .int)) ({ frames := 2, cells := 0, slots := 0, locals := 46 })).room.frames ∧ 46 ≤ (headSpec (mWs yX6_setLoad cX6_setLoad 4 (some .int)) ({ frames := 2, cells := 0, slots := 0, locals := 46 })).room.locals := ⟨Nat.le_refl _, Nat.le_refl _⟩
  have Z : mZ E s.heap s.heap [] G := ⟨hP, va_S.rf⟩
  have hl := lv_entry ([.ref (mad E (246)), .int (x1), .int (x2)]) (n := 4) (Nat.le_of_ble_eq_true rfl)
  rw [lg_entry_eq]
  generalize (lg_sl ([.ref (mad E (246)), .int (x1), .int (x2)]) ++ List.replicate (4 - (lg_sl ([.ref (mad E (246)), .int (x1), .int (x2)])).length) Slot.unset).toArray = ls at hl ⊢
  have hl : lv_has ls 4 [(0, .ref (mad E (246))), (1, .int (x1)), (2, .int (x2))] := hl
  unfold x6_setLoad at hT
  refine lv_aload_n hx hb dX6_setLoad_0 rfl (lv_at hl 0 rfl) ?_
  refine lv_iload_n hx hb dX6_setLoad_1 rfl (lv_at hl 1 rfl) ?_
  obtain ⟨q_1, h_q_1, hT⟩ := mx_bind hT
  refine mx_callV (As := [.int (x1)]) (rest := []) (st1 := [.int (q_1)]) (C := RX6) (T := TX6) (N := 11) (ci := 6) X Z hl.1 (c6_isTrain l E hJ hc _ _ _ h_q_1) wd_16_12 wd_16_13 wd_16_14 wd_1_5 wd_16_15 hd6_isTrain ⟨Nat.le_trans (by decide) hR.1, Nat.le_trans (by decide) hR.2⟩ ⟨Nat.zero_le _, Nat.zero_le _⟩ hc.i (hc.c _) rfl (Nat.le_of_ble_eq_true rfl) rfl rfl dX6_setLoad_2 (fun H locs Z => ?_)
  refine lv_if_eq (tgt := 18) hx hb dX6_setLoad_5 (by decide) (fun h_2 => ?_) (fun h_2 => ?_)
  · replace hT := mx_t hT h_2
    refine lv_bipush (v := (-2 : Int32)) hx hb dX6_setLoad_18 (by decide) ?_
    cases hT
    exact W.iret hx hb hr (fun t ht hW => mx_end Z t ht _) Z.2.2.2 dX6_setLoad_20
  · replace hT := mx_f hT h_2
    refine lv_iload_n hx hb dX6_setLoad_8 rfl (lv_at hl 2 rfl) ?_
    refine lv_iconst (v := (1 : Int32)) hx hb dX6_setLoad_9 (by decide) ?_
    refine lv_bipush (v := (20 : Int32)) hx hb dX6_setLoad_10 (by decide) ?_
    obtain ⟨q_3, h_q_3, hT⟩ := mx_bind hT
    refine mx_callS (As := [.int (x2), .int ((1 : Int32)), .int ((20 : Int32))]) (rest := []) (st1 := [.int (q_3)]) X Z hl.1 (c6_within l E hJ _ _ _ _ _ h_q_3) wd_9_1 wd_9_2 wd_1_5 wd_9_3 hd6_within ⟨Nat.le_trans (by decide) hR.1, Nat.le_trans (by decide) hR.2⟩ ⟨Nat.zero_le _, Nat.zero_le _⟩ (Nat.le_of_ble_eq_true rfl) rfl rfl dX6_setLoad_12 (fun H locs Z => ?_)
    refine lv_if_ne (tgt := 21) hx hb dX6_setLoad_15 (by decide) (fun h_4 => ?_) (fun h_4 => ?_)
    · replace hT := mx_f hT h_4
      refine lv_aload_n hx hb dX6_setLoad_21 rfl (lv_at hl 0 rfl) ?_
      obtain ⟨q_5, h_q_5, hT⟩ := mx_bind hT
      refine mx_callV (As := []) (rest := []) (st1 := []) (C := RX6) (T := TX6) (N := 11) (ci := 6) X Z hl.1 (c6_record l E hJ hc _ _ h_q_5) wd_12_22 wd_12_23 wd_13_0 wd_1_5 wd_13_1 hd6_record ⟨Nat.le_trans (by decide) hR.1, Nat.le_trans (by decide) hR.2⟩ ⟨Nat.zero_le _, Nat.zero_le _⟩ hc.i (hc.c _) rfl (Nat.le_of_ble_eq_true rfl) rfl rfl dX6_setLoad_22 (fun H locs Z => ?_)
      refine lv_aload_n hx hb dX6_setLoad_25 rfl (lv_at hl 0 rfl) ?_
      refine lv_iload_n hx hb dX6_setLoad_26 rfl (lv_at hl 1 rfl) ?_
      refine lv_iconst (v := (1 : Int32)) hx hb dX6_setLoad_27 (by decide) ?_
      obtain ⟨q_6, h_q_6, hT⟩ := mx_bind hT
      refine mx_callV (As := [.int (x1), .int ((1 : Int32))]) (rest := []) (st1 := [.int (q_6)]) (C := RX6) (T := TX6) (N := 11) (ci := 6) X Z hl.1 (c6_of l E hJ hc _ _ _ _ h_q_6) wd_13_11 wd_13_12 wd_13_13 wd_1_5 wd_13_14 hd6_of ⟨Nat.le_trans (by decide) hR.1, Nat.le_trans (by decide) hR.2⟩ ⟨Nat.zero_le _, Nat.zero_le _⟩ hc.i (hc.c _) rfl (Nat.le_of_ble_eq_true rfl) rfl rfl dX6_setLoad_28 (fun H locs Z => ?_)
      refine lv_istore_n (lv' := [(3, .int (q_6)), (0, .ref (mad E (246))), (1, .int (x1)), (2, .int (x2))]) hx hb dX6_setLoad_31 rfl hl (by decide) rfl (fun ls hl => ?_)
      refine lv_aload_n hx hb dX6_setLoad_32 rfl (lv_at hl 1 rfl) ?_
      refine lv_iload_n hx hb dX6_setLoad_33 rfl (lv_at hl 2 rfl) ?_
      refine lv_iconst (v := (1 : Int32)) hx hb dX6_setLoad_34 (by decide) ?_
      refine lv_iload_n hx hb dX6_setLoad_35 rfl (lv_at hl 3 rfl) ?_
      obtain ⟨q_7, h_q_7, hT⟩ := mx_bind hT
      refine mx_callV (As := [.int (x1), .int ((1 : Int32)), .int (x2)]) (rest := []) (st1 := []) (C := RX6) (T := TX6) (N := 11) (ci := 6) X Z hl.1 (c6_put l E hJ hc _ _ _ _ _ h_q_7) wd_15_18 wd_15_19 wd_15_20 wd_1_5 wd_15_21 hd6_put ⟨Nat.le_trans (by decide) hR.1, Nat.le_trans (by decide) hR.2⟩ ⟨Nat.zero_le _, Nat.zero_le _⟩ hc.i (hc.c _) rfl (Nat.le_of_ble_eq_true rfl) rfl rfl dX6_setLoad_36 (fun H locs Z => ?_)
      refine lv_iload_n hx hb dX6_setLoad_39 rfl (lv_at hl 0 rfl) ?_
      cases hT
      exact W.iret hx hb hr (fun t ht hW => mx_end Z t ht _) Z.2.2.2 dX6_setLoad_40
    · replace hT := mx_t hT h_4
      refine lv_bipush (v := (-2 : Int32)) hx hb dX6_setLoad_18 (by decide) ?_
      cases hT
      exact W.iret hx hb hr (fun t ht hW => mx_end Z t ht _) Z.2.2.2 dX6_setLoad_20
/-! PeatRailwayModel.isEnd -/
def x6_isEnd (x1 : Int32) (G : mM) : Option Int32 :=
  if x1 = 0 then
    some ((1 : Int32))
  else
    if x1 = ((G 247 72) - ((1 : Int32))) then
      some ((1 : Int32))
    else
      some ((0 : Int32))
theorem hd6_isEnd : yX6_isEnd.cls = RX6 ∧ yX6_isEnd.cls ≠ "java/lang/invoke/MethodHandle" ∧ yX6_isEnd.cls ≠ "java/lang/invoke/VarHandle" ∧ (parseMethodDescriptor yX6_isEnd.desc).map (fun d => d.parameters.length) = some 1 := by decide +kernel
set_option maxHeartbeats 4000000 in
set_option maxRecDepth 100000 in
theorem c6_isEnd (l : Launch) (E : mE) (hJ : mJ E) (hc : mMo E 246) (x1 : Int32) (G : mM) (q : Int32) (hT : x6_isEnd x1 G = some q) : mMet l E yX6_isEnd cX6_isEnd 2 (some .boolean) 0 0 [.ref (mad E (246)), .int (x1)] G (some (.int q)) G := by
  refine Met.ofW (cc := cX6_isEnd) (maxL := 2) (ret := (some .boolean)) (by decide) rfl ?_
  intro p e s m args below meth cd s₁ B hml hv
  obtain ⟨rfl, hP, hK, hS⟩ := hv
  have X := mx_entry (own := RX6) B hml hK hJ hS rfl
  have hx := X.1
  have hb := X.2.1
  have hown := X.2.2.2.1
  have hts := X.2.2.2.2.1
  have hr := B.returns
  have hlocks := B.notSynchronized
  have hR : 0 ≤ (headSpec (mWs yX6_isEnd cX6_isEnd 2 (some .boolean)) ({ frames := 0, cells := 0, slots := 0, locals := 0 })).room.frames ∧ 0 ≤ (headSpec (mWs yX6_isEnd cX6_isEnd 2 (some .boolean)) ({ frames := 0, cells := 0, slots := 0, locals := 0 })).room.locals := ⟨Nat.le_refl _, Nat.le_refl _⟩
  have Z : mZ E s.heap s.heap [] G := ⟨hP, va_S.rf⟩
  have hl := lv_entry ([.ref (mad E (246)), .int (x1)]) (n := 2) (Nat.le_of_ble_eq_true rfl)
  rw [lg_entry_eq]
  generalize (lg_sl ([.ref (mad E (246)), .int (x1)]) ++ List.replicate (2 - (lg_sl ([.ref (mad E (246)), .int (x1)])).length) Slot.unset).toArray = ls at hl ⊢
  have hl : lv_has ls 2 [(0, .ref (mad E (246))), (1, .int (x1))] := hl
  unfold x6_isEnd at hT
  refine lv_iload_n hx hb dX6_isEnd_0 rfl (lv_at hl 1 rfl) ?_
  refine lv_if_eq (tgt := 17) hx hb dX6_isEnd_1 (by decide) (fun h_1 => ?_) (fun h_1 => ?_)
  · replace hT := mx_t hT h_1
    refine lv_iconst (v := (1 : Int32)) hx hb dX6_isEnd_17 (by decide) ?_
    refine lv_goto (tgt := 22) hx hb dX6_isEnd_18 (by decide) ?_
    cases hT
    exact W.zret (v := (1 : Int32)) hx hb hr rfl (fun t ht hW => mx_end Z t ht _) Z.2.2.2 dX6_isEnd_22
  · replace hT := mx_f hT h_1
    refine lv_iload_n hx hb dX6_isEnd_4 rfl (lv_at hl 1 rfl) ?_
    refine lv_aload_n hx hb dX6_isEnd_5 rfl (lv_at hl 0 rfl) ?_
    refine mx_get (v := .ref (mad E (247))) (ci := 6) (C := RX6) (T := TX6) (N := 11) X Z hc.i (hc.c _) rfl inlX6 0 (by decide) wd_7_23 rfl dX6_isEnd_6 ?_
    refine lv_bipush (v := (72 : Int32)) hx hb dX6_isEnd_9 (by decide) ?_
    refine mx_iald X Z hc.z (mx_lit (by decide)) dX6_isEnd_11 ?_
    refine mx_tops (s2 := [.int (G 247 72), .int (x1)]) rfl ?_
    refine lv_iconst (v := (1 : Int32)) hx hb dX6_isEnd_12 (by decide) ?_
    refine lv_isub hx hb dX6_isEnd_13 ?_
    refine lv_icmp_ne (tgt := 21) hx hb dX6_isEnd_14 (by decide) (fun h_2 => ?_) (fun h_2 => ?_)
    · replace hT := mx_f hT h_2
      refine lv_iconst (v := (0 : Int32)) hx hb dX6_isEnd_21 (by decide) ?_
      cases hT
      exact W.zret (v := (0 : Int32)) hx hb hr rfl (fun t ht hW => mx_end Z t ht _) Z.2.2.2 dX6_isEnd_22
    · replace hT := mx_t hT h_2
      refine lv_iconst (v := (1 : Int32)) hx hb dX6_isEnd_17 (by decide) ?_
      refine lv_goto (tgt := 22) hx hb dX6_isEnd_18 (by decide) ?_
      cases hT
      exact W.zret (v := (1 : Int32)) hx hb hr rfl (fun t ht hW => mx_end Z t ht _) Z.2.2.2 dX6_isEnd_22
/-! PeatRailwayModel.isPassing -/
def x6_isPassing (x1 : Int32) (G : mM) : Option Int32 :=
  (x6_seg x1 ((1 : Int32)) G).bind fun q_1 =>
  if q_1 = ((1 : Int32)) then
    some ((1 : Int32))
  else
    some ((0 : Int32))
theorem hd6_isPassing : yX6_isPassing.cls = RX6 ∧ yX6_isPassing.cls ≠ "java/lang/invoke/MethodHandle" ∧ yX6_isPassing.cls ≠ "java/lang/invoke/VarHandle" ∧ (parseMethodDescriptor yX6_isPassing.desc).map (fun d => d.parameters.length) = some 1 := by decide +kernel
set_option maxHeartbeats 4000000 in
set_option maxRecDepth 100000 in
theorem c6_isPassing (l : Launch) (E : mE) (hJ : mJ E) (hc : mMo E 246) (x1 : Int32) (G : mM) (q : Int32) (hT : x6_isPassing x1 G = some q) : mMet l E yX6_isPassing cX6_isPassing 2 (some .boolean) 1 22 [.ref (mad E (246)), .int (x1)] G (some (.int q)) G := by
  refine Met.ofW (cc := cX6_isPassing) (maxL := 2) (ret := (some .boolean)) (by decide) rfl ?_
  intro p e s m args below meth cd s₁ B hml hv
  obtain ⟨rfl, hP, hK, hS⟩ := hv
  have X := mx_entry (own := RX6) B hml hK hJ hS rfl
  have hx := X.1
  have hb := X.2.1
  have hown := X.2.2.2.1
  have hts := X.2.2.2.2.1
  have hr := B.returns
  have hlocks := B.notSynchronized
  have hR : 1 ≤ (headSpec (mWs yX6_isPassing cX6_isPassing 2 (some .boolean)) ({ frames := 1, cells := 0, slots := 0, locals := 22 })).room.frames ∧ 22 ≤ (headSpec (mWs yX6_isPassing cX6_isPassing 2 (some .boolean)) ({ frames := 1, cells := 0, slots := 0, locals := 22 })).room.locals := ⟨Nat.le_refl _, Nat.le_refl _⟩
  have Z : mZ E s.heap s.heap [] G := ⟨hP, va_S.rf⟩
  have hl := lv_entry ([.ref (mad E (246)), .int (x1)]) (n := 2) (Nat.le_of_ble_eq_true rfl)
  rw [lg_entry_eq]
  generalize (lg_sl ([.ref (mad E (246)), .int (x1)]) ++ List.replicate (2 - (lg_sl ([.ref (mad E (246)), .int (x1)])).length) Slot.unset).toArray = ls at hl ⊢
  have hl : lv_has ls 2 [(0, .ref (mad E (246))), (1, .int (x1))] := hl
  unfold x6_isPassing at hT
  refine lv_aload_n hx hb dX6_isPassing_0 rfl (lv_at hl 0 rfl) ?_
  refine lv_iload_n hx hb dX6_isPassing_1 rfl (lv_at hl 1 rfl) ?_
  refine lv_iconst (v := (1 : Int32)) hx hb dX6_isPassing_2 (by decide) ?_
  obtain ⟨q_1, h_q_1, hT⟩ := mx_bind hT
  refine mx_callV (As := [.int (x1), .int ((1 : Int32))]) (rest := []) (st1 := [.int (q_1)]) (C := RX6) (T := TX6) (N := 11) (ci := 6) X Z hl.1 (c6_seg l E hJ hc _ _ _ _ h_q_1) wd_21_23 wd_22_0 wd_22_1 wd_1_5 wd_22_2 hd6_seg ⟨Nat.le_trans (by decide) hR.1, Nat.le_trans (by decide) hR.2⟩ ⟨Nat.zero_le _, Nat.zero_le _⟩ hc.i (hc.c _) rfl (Nat.le_of_ble_eq_true rfl) rfl rfl dX6_isPassing_3 (fun H locs Z => ?_)
  refine lv_iconst (v := (1 : Int32)) hx hb dX6_isPassing_6 (by decide) ?_
  refine lv_icmp_ne (tgt := 14) hx hb dX6_isPassing_7 (by decide) (fun h_2 => ?_) (fun h_2 => ?_)
  · replace hT := mx_f hT h_2
    refine lv_iconst (v := (0 : Int32)) hx hb dX6_isPassing_14 (by decide) ?_
    cases hT
    exact W.zret (v := (0 : Int32)) hx hb hr rfl (fun t ht hW => mx_end Z t ht _) Z.2.2.2 dX6_isPassing_15
  · replace hT := mx_t hT h_2
    refine lv_iconst (v := (1 : Int32)) hx hb dX6_isPassing_10 (by decide) ?_
    refine lv_goto (tgt := 15) hx hb dX6_isPassing_11 (by decide) ?_
    cases hT
    exact W.zret (v := (1 : Int32)) hx hb hr rfl (fun t ht hW => mx_end Z t ht _) Z.2.2.2 dX6_isPassing_15
/-! PeatRailwayModel.room -/
def x6_room (x1 : Int32) (G : mM) : Option Int32 :=
  (x6_isEnd x1 G).bind fun q_1 =>
  if q_1 = 0 then
    (x6_isPassing x1 G).bind fun q_3 =>
    if q_3 = 0 then
      some ((1 : Int32))
    else
      some ((2 : Int32))
  else
    some ((4 : Int32))
theorem hd6_room : yX6_room.cls = RX6 ∧ yX6_room.cls ≠ "java/lang/invoke/MethodHandle" ∧ yX6_room.cls ≠ "java/lang/invoke/VarHandle" ∧ (parseMethodDescriptor yX6_room.desc).map (fun d => d.parameters.length) = some 1 := by decide +kernel
set_option maxHeartbeats 4000000 in
set_option maxRecDepth 100000 in
theorem c6_room (l : Launch) (E : mE) (hJ : mJ E) (hc : mMo E 246) (x1 : Int32) (G : mM) (q : Int32) (hT : x6_room x1 G = some q) : mMet l E yX6_room cX6_room 2 (some .int) 2 43 [.ref (mad E (246)), .int (x1)] G (some (.int q)) G := by
  refine Met.ofW (cc := cX6_room) (maxL := 2) (ret := (some .int)) (by decide) rfl ?_
  intro p e s m args below meth cd s₁ B hml hv
  obtain ⟨rfl, hP, hK, hS⟩ := hv
  have X := mx_entry (own := RX6) B hml hK hJ hS rfl
  have hx := X.1
  have hb := X.2.1
  have hown := X.2.2.2.1
  have hts := X.2.2.2.2.1
  have hr := B.returns
  have hlocks := B.notSynchronized
  have hR : 2 ≤ (headSpec (mWs yX6_room cX6_room 2 (some .int)) ({ frames := 2, cells := 0, slots := 0, locals := 43 })).room.frames ∧ 43 ≤ (headSpec (mWs yX6_room cX6_room 2 (some .int)) ({ frames := 2, cells := 0, slots := 0, locals := 43 })).room.locals := ⟨Nat.le_refl _, Nat.le_refl _⟩
  have Z : mZ E s.heap s.heap [] G := ⟨hP, va_S.rf⟩
  have hl := lv_entry ([.ref (mad E (246)), .int (x1)]) (n := 2) (Nat.le_of_ble_eq_true rfl)
  rw [lg_entry_eq]
  generalize (lg_sl ([.ref (mad E (246)), .int (x1)]) ++ List.replicate (2 - (lg_sl ([.ref (mad E (246)), .int (x1)])).length) Slot.unset).toArray = ls at hl ⊢
  have hl : lv_has ls 2 [(0, .ref (mad E (246))), (1, .int (x1))] := hl
  unfold x6_room at hT
  refine lv_aload_n hx hb dX6_room_0 rfl (lv_at hl 0 rfl) ?_
  refine lv_iload_n hx hb dX6_room_1 rfl (lv_at hl 1 rfl) ?_
  obtain ⟨q_1, h_q_1, hT⟩ := mx_bind hT
  refine mx_callV (As := [.int (x1)]) (rest := []) (st1 := [.int (q_1)]) (C := RX6) (T := TX6) (N := 11) (ci := 6) X Z hl.1 (c6_isEnd l E hJ hc _ _ _ h_q_1) wd_22_11 wd_22_12 wd_22_13 wd_1_5 wd_22_14 hd6_isEnd ⟨Nat.le_trans (by decide) hR.1, Nat.le_trans (by decide) hR.2⟩ ⟨Nat.zero_le _, Nat.zero_le _⟩ hc.i (hc.c _) rfl (Nat.le_of_ble_eq_true rfl) rfl rfl dX6_room_2 (fun H locs Z => ?_)
  refine lv_if_eq (tgt := 12) hx hb dX6_room_5 (by decide) (fun h_2 => ?_) (fun h_2 => ?_)
  · replace hT := mx_t hT h_2
    refine lv_aload_n hx hb dX6_room_12 rfl (lv_at hl 0 rfl) ?_
    refine lv_iload_n hx hb dX6_room_13 rfl (lv_at hl 1 rfl) ?_
    obtain ⟨q_3, h_q_3, hT⟩ := mx_bind hT
    refine mx_callV (As := [.int (x1)]) (rest := []) (st1 := [.int (q_3)]) (C := RX6) (T := TX6) (N := 11) (ci := 6) X Z hl.1 (c6_isPassing l E hJ hc _ _ _ h_q_3) wd_22_15 wd_22_16 wd_22_17 wd_1_5 wd_22_18 hd6_isPassing ⟨Nat.le_trans (by decide) hR.1, Nat.le_trans (by decide) hR.2⟩ ⟨Nat.zero_le _, Nat.zero_le _⟩ hc.i (hc.c _) rfl (Nat.le_of_ble_eq_true rfl) rfl rfl dX6_room_14 (fun H locs Z => ?_)
    refine lv_if_eq (tgt := 24) hx hb dX6_room_17 (by decide) (fun h_4 => ?_) (fun h_4 => ?_)
    · replace hT := mx_t hT h_4
      refine lv_iconst (v := (1 : Int32)) hx hb dX6_room_24 (by decide) ?_
      cases hT
      exact W.iret hx hb hr (fun t ht hW => mx_end Z t ht _) Z.2.2.2 dX6_room_25
    · replace hT := mx_f hT h_4
      refine lv_iconst (v := (2 : Int32)) hx hb dX6_room_20 (by decide) ?_
      refine lv_goto (tgt := 25) hx hb dX6_room_21 (by decide) ?_
      cases hT
      exact W.iret hx hb hr (fun t ht hW => mx_end Z t ht _) Z.2.2.2 dX6_room_25
  · replace hT := mx_f hT h_2
    refine lv_iconst (v := (4 : Int32)) hx hb dX6_room_8 (by decide) ?_
    refine lv_goto (tgt := 25) hx hb dX6_room_9 (by decide) ?_
    cases hT
    exact W.iret hx hb hr (fun t ht hW => mx_end Z t ht _) Z.2.2.2 dX6_room_25
/-! PeatRailwayModel.trainsIn -/
def x6_trainsIn_L4 (y1 : Int32) : Nat → Int32 → Int32 → mM → Option (Int32)
  | 0, _, _, _ => none
  | n + 1, w2, w3, G =>
    if (G 247 73) ≤ w3 then
      some (w2)
    else
      (x6_of w3 ((3 : Int32)) G).bind fun q_2 =>
      if q_2 = y1 then
        mNm (w2 + ((1 : Int32))) fun v_6 =>
        mNm (w3 + (1 : Int32)) fun v_7 =>
        x6_trainsIn_L4 y1 n v_6 v_7 G
      else
        mNm (w2 + ((0 : Int32))) fun v_4 =>
        mNm (w3 + (1 : Int32)) fun v_5 =>
        x6_trainsIn_L4 y1 n v_4 v_5 G
def x6_trainsIn (x1 : Int32) (G : mM) : Option Int32 :=
  (x6_trainsIn_L4 x1 mFu ((0 : Int32)) ((0 : Int32)) G).bind fun q_8 =>
  some (q_8)
theorem hd6_trainsIn : yX6_trainsIn.cls = RX6 ∧ yX6_trainsIn.cls ≠ "java/lang/invoke/MethodHandle" ∧ yX6_trainsIn.cls ≠ "java/lang/invoke/VarHandle" ∧ (parseMethodDescriptor yX6_trainsIn.desc).map (fun d => d.parameters.length) = some 1 := by decide +kernel
set_option maxHeartbeats 4000000 in
set_option maxRecDepth 100000 in
theorem k6_trainsIn_4 {p : Program} {l : Launch} {e : Env} {R : Room} {s : State} {m : MethodId} {args : Array Value} {below : List Frame} {meth : Method} {cd : Code} {Q : State → Prop} {E : mE} (X : mX p s m args cd cX6_trainsIn 4 RX6 E) (hR : 1 ≤ R.frames ∧ 22 ≤ R.locals) (hJ : mJ E) (hy0 : mMo E 246) (y1 : Int32) : ∀ (n : Nat) (w2 : Int32) (w3 : Int32) (G : mM) (H : Heap) (locs : List Loc) (ls : Array Slot) (r : Int32), x6_trainsIn_L4 y1 n w2 w3 G = some r → mZ E s.heap H locs G → lv_has ls 4 [(0, .ref (mad E (246))), (1, .int (y1)), (2, .int (w2)), (3, .int (w3))] → (∀ (H : Heap) (locs : List Loc) (ls : Array Slot), mZ E s.heap H locs G → lv_has ls 4 [(0, .ref (mad E (246))), (1, .int (y1)), (2, .int (r))] → W p l e R s m args below meth cd H locs 0 0 Q (F0 m 39 ls [])) → W p l e R s m args below meth cd H locs 0 0 Q (F0 m 4 ls []) := by
  have hx := X.1
  have hb := X.2.1
  have hown := X.2.2.2.1
  have hts := X.2.2.2.2.1
  intro n
  induction n with
  | zero =>
    intro w2 w3 G H locs ls r hT
    rw [x6_trainsIn_L4] at hT
    cases hT
  | succ n ih =>
    intro w2 w3 G H locs ls r hT Z hl k0
    rw [x6_trainsIn_L4] at hT
    refine lv_iload_n hx hb dX6_trainsIn_4 rfl (lv_at hl 3 rfl) ?_
    refine lv_aload_n hx hb dX6_trainsIn_5 rfl (lv_at hl 0 rfl) ?_
    refine mx_get (v := .ref (mad E (247))) (ci := 6) (C := RX6) (T := TX6) (N := 11) X Z hy0.i (hy0.c _) rfl inlX6 0 (by decide) wd_7_23 rfl dX6_trainsIn_6 ?_
    refine lv_bipush (v := (73 : Int32)) hx hb dX6_trainsIn_9 (by decide) ?_
    refine mx_iald X Z hy0.z (mx_lit (by decide)) dX6_trainsIn_11 ?_
    refine mx_tops (s2 := [.int (G 247 73), .int (w3)]) rfl ?_
    refine lv_icmp_ge (tgt := 39) hx hb dX6_trainsIn_12 (by decide) (fun h_1 => ?_) (fun h_1 => ?_)
    · replace hT := mx_t hT h_1
      cases hT
      exact k0 _ _ _ Z (lv_sub hl [0, 1, 2] rfl)
    · replace hT := mx_f hT h_1
      refine lv_iload_n hx hb dX6_trainsIn_15 rfl (lv_at hl 2 rfl) ?_
      refine lv_aload_n hx hb dX6_trainsIn_16 rfl (lv_at hl 0 rfl) ?_
      refine lv_iload_n hx hb dX6_trainsIn_17 rfl (lv_at hl 3 rfl) ?_
      refine lv_iconst (v := (3 : Int32)) hx hb dX6_trainsIn_18 (by decide) ?_
      obtain ⟨q_2, h_q_2, hT⟩ := mx_bind hT
      refine mx_callV (As := [.int (w3), .int ((3 : Int32))]) (rest := [.int (w2)]) (st1 := [.int (q_2), .int (w2)]) (C := RX6) (T := TX6) (N := 11) (ci := 6) X Z hl.1 (c6_of l E hJ hy0 _ _ _ _ h_q_2) wd_13_11 wd_13_12 wd_13_13 wd_1_5 wd_13_14 hd6_of ⟨Nat.le_trans (by decide) hR.1, Nat.le_trans (by decide) hR.2⟩ ⟨Nat.zero_le _, Nat.zero_le _⟩ hy0.i (hy0.c _) rfl (Nat.le_of_ble_eq_true rfl) rfl rfl dX6_trainsIn_19 (fun H locs Z => ?_)
      refine lv_iload_n hx hb dX6_trainsIn_22 rfl (lv_at hl 1 rfl) ?_
      refine lv_icmp_ne (tgt := 30) hx hb dX6_trainsIn_23 (by decide) (fun h_3 => ?_) (fun h_3 => ?_)
      · replace hT := mx_f hT h_3
        refine lv_iconst (v := (0 : Int32)) hx hb dX6_trainsIn_30 (by decide) ?_
        refine lv_iadd hx hb dX6_trainsIn_31 ?_
        obtain ⟨v_4, e_v_4, hT⟩ := mx_nm hT
        refine mx_tops (congrArg (fun z => (.int (z) :: [] : List Value)) e_v_4) ?_
        refine lv_istore_n (lv' := [(2, .int (v_4)), (0, .ref (mad E (246))), (1, .int (y1)), (3, .int (w3))]) hx hb dX6_trainsIn_32 rfl hl (by decide) rfl (fun ls hl => ?_)
        obtain ⟨v_5, e_v_5, hT⟩ := mx_nm hT
        refine lv_iinc (v := v_5) (lv' := [(3, .int (v_5)), (2, .int (v_4)), (0, .ref (mad E (246))), (1, .int (y1))]) hx hb dX6_trainsIn_33 hl (k := 3) rfl (by rw [← e_v_5]; rfl) (by decide) rfl (fun ls hl => ?_)
        refine lv_goto (tgt := 4) hx hb dX6_trainsIn_36 (by decide) ?_
        exact ih _ _ _ _ _ _ _ hT Z (lv_sub hl [2, 3, 1, 0] rfl) k0
      · replace hT := mx_t hT h_3
        refine lv_iconst (v := (1 : Int32)) hx hb dX6_trainsIn_26 (by decide) ?_
        refine lv_goto (tgt := 31) hx hb dX6_trainsIn_27 (by decide) ?_
        refine lv_iadd hx hb dX6_trainsIn_31 ?_
        obtain ⟨v_6, e_v_6, hT⟩ := mx_nm hT
        refine mx_tops (congrArg (fun z => (.int (z) :: [] : List Value)) e_v_6) ?_
        refine lv_istore_n (lv' := [(2, .int (v_6)), (0, .ref (mad E (246))), (1, .int (y1)), (3, .int (w3))]) hx hb dX6_trainsIn_32 rfl hl (by decide) rfl (fun ls hl => ?_)
        obtain ⟨v_7, e_v_7, hT⟩ := mx_nm hT
        refine lv_iinc (v := v_7) (lv' := [(3, .int (v_7)), (2, .int (v_6)), (0, .ref (mad E (246))), (1, .int (y1))]) hx hb dX6_trainsIn_33 hl (k := 3) rfl (by rw [← e_v_7]; rfl) (by decide) rfl (fun ls hl => ?_)
        refine lv_goto (tgt := 4) hx hb dX6_trainsIn_36 (by decide) ?_
        exact ih _ _ _ _ _ _ _ hT Z (lv_sub hl [2, 3, 1, 0] rfl) k0
set_option maxHeartbeats 4000000 in
set_option maxRecDepth 100000 in
theorem c6_trainsIn (l : Launch) (E : mE) (hJ : mJ E) (hc : mMo E 246) (x1 : Int32) (G : mM) (q : Int32) (hT : x6_trainsIn x1 G = some q) : mMet l E yX6_trainsIn cX6_trainsIn 4 (some .int) 1 22 [.ref (mad E (246)), .int (x1)] G (some (.int q)) G := by
  refine Met.ofW (cc := cX6_trainsIn) (maxL := 4) (ret := (some .int)) (by decide) rfl ?_
  intro p e s m args below meth cd s₁ B hml hv
  obtain ⟨rfl, hP, hK, hS⟩ := hv
  have X := mx_entry (own := RX6) B hml hK hJ hS rfl
  have hx := X.1
  have hb := X.2.1
  have hown := X.2.2.2.1
  have hts := X.2.2.2.2.1
  have hr := B.returns
  have hlocks := B.notSynchronized
  have hR : 1 ≤ (headSpec (mWs yX6_trainsIn cX6_trainsIn 4 (some .int)) ({ frames := 1, cells := 0, slots := 0, locals := 22 })).room.frames ∧ 22 ≤ (headSpec (mWs yX6_trainsIn cX6_trainsIn 4 (some .int)) ({ frames := 1, cells := 0, slots := 0, locals := 22 })).room.locals := ⟨Nat.le_refl _, Nat.le_refl _⟩
  have Z : mZ E s.heap s.heap [] G := ⟨hP, va_S.rf⟩
  have hl := lv_entry ([.ref (mad E (246)), .int (x1)]) (n := 4) (Nat.le_of_ble_eq_true rfl)
  rw [lg_entry_eq]
  generalize (lg_sl ([.ref (mad E (246)), .int (x1)]) ++ List.replicate (4 - (lg_sl ([.ref (mad E (246)), .int (x1)])).length) Slot.unset).toArray = ls at hl ⊢
  have hl : lv_has ls 4 [(0, .ref (mad E (246))), (1, .int (x1))] := hl
  unfold x6_trainsIn at hT
  refine lv_iconst (v := (0 : Int32)) hx hb dX6_trainsIn_0 (by decide) ?_
  refine lv_istore_n (lv' := [(2, .int ((0 : Int32))), (0, .ref (mad E (246))), (1, .int (x1))]) hx hb dX6_trainsIn_1 rfl hl (by decide) rfl (fun ls hl => ?_)
  refine lv_iconst (v := (0 : Int32)) hx hb dX6_trainsIn_2 (by decide) ?_
  refine lv_istore_n (lv' := [(3, .int ((0 : Int32))), (2, .int ((0 : Int32))), (0, .ref (mad E (246))), (1, .int (x1))]) hx hb dX6_trainsIn_3 rfl hl (by decide) rfl (fun ls hl => ?_)
  obtain ⟨q_8, h_q_8, hT⟩ := mx_bind hT
  refine k6_trainsIn_4 X hR hJ hc _ _ _ _ _ _ _ _ _ h_q_8 Z (lv_sub (l' := [(0, .ref (mad E (246))), (1, .int (x1)), (2, .int ((0 : Int32))), (3, .int ((0 : Int32)))]) hl [2, 3, 1, 0] rfl) (fun H locs ls Z hl => ?_)
  · refine lv_iload_n hx hb dX6_trainsIn_39 rfl (lv_at hl 2 rfl) ?_
    cases hT
    exact W.iret hx hb hr (fun t ht hW => mx_end Z t ht _) Z.2.2.2 dX6_trainsIn_40
/-! PeatRailwayModel.weight -/
def x6_weight (x1 : Int32) (G : mM) : Option Int32 :=
  (x6_of x1 ((0 : Int32)) G).bind fun q_1 =>
  (x6_of x1 ((2 : Int32)) G).bind fun q_2 =>
  some ((((4 : Int32)) + (((2 : Int32)) * q_1)) + q_2)
theorem hd6_weight : yX6_weight.cls = RX6 ∧ yX6_weight.cls ≠ "java/lang/invoke/MethodHandle" ∧ yX6_weight.cls ≠ "java/lang/invoke/VarHandle" ∧ (parseMethodDescriptor yX6_weight.desc).map (fun d => d.parameters.length) = some 1 := by decide +kernel
set_option maxHeartbeats 4000000 in
set_option maxRecDepth 100000 in
theorem c6_weight (l : Launch) (E : mE) (hJ : mJ E) (hc : mMo E 246) (x1 : Int32) (G : mM) (q : Int32) (hT : x6_weight x1 G = some q) : mMet l E yX6_weight cX6_weight 2 (some .int) 1 22 [.ref (mad E (246)), .int (x1)] G (some (.int q)) G := by
  refine Met.ofW (cc := cX6_weight) (maxL := 2) (ret := (some .int)) (by decide) rfl ?_
  intro p e s m args below meth cd s₁ B hml hv
  obtain ⟨rfl, hP, hK, hS⟩ := hv
  have X := mx_entry (own := RX6) B hml hK hJ hS rfl
  have hx := X.1
  have hb := X.2.1
  have hown := X.2.2.2.1
  have hts := X.2.2.2.2.1
  have hr := B.returns
  have hlocks := B.notSynchronized
  have hR : 1 ≤ (headSpec (mWs yX6_weight cX6_weight 2 (some .int)) ({ frames := 1, cells := 0, slots := 0, locals := 22 })).room.frames ∧ 22 ≤ (headSpec (mWs yX6_weight cX6_weight 2 (some .int)) ({ frames := 1, cells := 0, slots := 0, locals := 22 })).room.locals := ⟨Nat.le_refl _, Nat.le_refl _⟩
  have Z : mZ E s.heap s.heap [] G := ⟨hP, va_S.rf⟩
  have hl := lv_entry ([.ref (mad E (246)), .int (x1)]) (n := 2) (Nat.le_of_ble_eq_true rfl)
  rw [lg_entry_eq]
  generalize (lg_sl ([.ref (mad E (246)), .int (x1)]) ++ List.replicate (2 - (lg_sl ([.ref (mad E (246)), .int (x1)])).length) Slot.unset).toArray = ls at hl ⊢
  have hl : lv_has ls 2 [(0, .ref (mad E (246))), (1, .int (x1))] := hl
  unfold x6_weight at hT
  refine lv_iconst (v := (4 : Int32)) hx hb dX6_weight_0 (by decide) ?_
  refine lv_iconst (v := (2 : Int32)) hx hb dX6_weight_1 (by decide) ?_
  refine lv_aload_n hx hb dX6_weight_2 rfl (lv_at hl 0 rfl) ?_
  refine lv_iload_n hx hb dX6_weight_3 rfl (lv_at hl 1 rfl) ?_
  refine lv_iconst (v := (0 : Int32)) hx hb dX6_weight_4 (by decide) ?_
  obtain ⟨q_1, h_q_1, hT⟩ := mx_bind hT
  refine mx_callV (As := [.int (x1), .int ((0 : Int32))]) (rest := [.int ((2 : Int32)), .int ((4 : Int32))]) (st1 := [.int (q_1), .int ((2 : Int32)), .int ((4 : Int32))]) (C := RX6) (T := TX6) (N := 11) (ci := 6) X Z hl.1 (c6_of l E hJ hc _ _ _ _ h_q_1) wd_13_11 wd_13_12 wd_13_13 wd_1_5 wd_13_14 hd6_of ⟨Nat.le_trans (by decide) hR.1, Nat.le_trans (by decide) hR.2⟩ ⟨Nat.zero_le _, Nat.zero_le _⟩ hc.i (hc.c _) rfl (Nat.le_of_ble_eq_true rfl) rfl rfl dX6_weight_5 (fun H locs Z => ?_)
  refine lv_imul hx hb dX6_weight_8 ?_
  refine lv_iadd hx hb dX6_weight_9 ?_
  refine lv_aload_n hx hb dX6_weight_10 rfl (lv_at hl 0 rfl) ?_
  refine lv_iload_n hx hb dX6_weight_11 rfl (lv_at hl 1 rfl) ?_
  refine lv_iconst (v := (2 : Int32)) hx hb dX6_weight_12 (by decide) ?_
  obtain ⟨q_2, h_q_2, hT⟩ := mx_bind hT
  refine mx_callV (As := [.int (x1), .int ((2 : Int32))]) (rest := [.int (((4 : Int32)) + (((2 : Int32)) * q_1))]) (st1 := [.int (q_2), .int (((4 : Int32)) + (((2 : Int32)) * q_1))]) (C := RX6) (T := TX6) (N := 11) (ci := 6) X Z hl.1 (c6_of l E hJ hc _ _ _ _ h_q_2) wd_13_11 wd_13_12 wd_13_13 wd_1_5 wd_13_14 hd6_of ⟨Nat.le_trans (by decide) hR.1, Nat.le_trans (by decide) hR.2⟩ ⟨Nat.zero_le _, Nat.zero_le _⟩ hc.i (hc.c _) rfl (Nat.le_of_ble_eq_true rfl) rfl rfl dX6_weight_13 (fun H locs Z => ?_)
  refine lv_iadd hx hb dX6_weight_16 ?_
  cases hT
  exact W.iret hx hb hr (fun t ht hW => mx_end Z t ht _) Z.2.2.2 dX6_weight_17
/-! PeatRailwayModel.weightIn -/
def x6_weightIn_L4 (y1 : Int32) : Nat → Int32 → Int32 → mM → Option (Int32)
  | 0, _, _, _ => none
  | n + 1, w2, w3, G =>
    if (G 247 73) ≤ w3 then
      some (w2)
    else
      (x6_of w3 ((3 : Int32)) G).bind fun q_2 =>
      if q_2 = y1 then
        (x6_weight w3 G).bind fun q_6 =>
        mNm (w2 + q_6) fun v_7 =>
        mNm (w3 + (1 : Int32)) fun v_8 =>
        x6_weightIn_L4 y1 n v_7 v_8 G
      else
        mNm (w2 + ((0 : Int32))) fun v_4 =>
        mNm (w3 + (1 : Int32)) fun v_5 =>
        x6_weightIn_L4 y1 n v_4 v_5 G
def x6_weightIn (x1 : Int32) (G : mM) : Option Int32 :=
  (x6_weightIn_L4 x1 mFu ((0 : Int32)) ((0 : Int32)) G).bind fun q_9 =>
  some (q_9)
theorem hd6_weightIn : yX6_weightIn.cls = RX6 ∧ yX6_weightIn.cls ≠ "java/lang/invoke/MethodHandle" ∧ yX6_weightIn.cls ≠ "java/lang/invoke/VarHandle" ∧ (parseMethodDescriptor yX6_weightIn.desc).map (fun d => d.parameters.length) = some 1 := by decide +kernel
set_option maxHeartbeats 4000000 in
set_option maxRecDepth 100000 in
theorem k6_weightIn_4 {p : Program} {l : Launch} {e : Env} {R : Room} {s : State} {m : MethodId} {args : Array Value} {below : List Frame} {meth : Method} {cd : Code} {Q : State → Prop} {E : mE} (X : mX p s m args cd cX6_weightIn 4 RX6 E) (hR : 2 ≤ R.frames ∧ 43 ≤ R.locals) (hJ : mJ E) (hy0 : mMo E 246) (y1 : Int32) : ∀ (n : Nat) (w2 : Int32) (w3 : Int32) (G : mM) (H : Heap) (locs : List Loc) (ls : Array Slot) (r : Int32), x6_weightIn_L4 y1 n w2 w3 G = some r → mZ E s.heap H locs G → lv_has ls 4 [(0, .ref (mad E (246))), (1, .int (y1)), (2, .int (w2)), (3, .int (w3))] → (∀ (H : Heap) (locs : List Loc) (ls : Array Slot), mZ E s.heap H locs G → lv_has ls 4 [(0, .ref (mad E (246))), (1, .int (y1)), (2, .int (r))] → W p l e R s m args below meth cd H locs 0 0 Q (F0 m 43 ls [])) → W p l e R s m args below meth cd H locs 0 0 Q (F0 m 4 ls []) := by
  have hx := X.1
  have hb := X.2.1
  have hown := X.2.2.2.1
  have hts := X.2.2.2.2.1
  intro n
  induction n with
  | zero =>
    intro w2 w3 G H locs ls r hT
    rw [x6_weightIn_L4] at hT
    cases hT
  | succ n ih =>
    intro w2 w3 G H locs ls r hT Z hl k0
    rw [x6_weightIn_L4] at hT
    refine lv_iload_n hx hb dX6_weightIn_4 rfl (lv_at hl 3 rfl) ?_
    refine lv_aload_n hx hb dX6_weightIn_5 rfl (lv_at hl 0 rfl) ?_
    refine mx_get (v := .ref (mad E (247))) (ci := 6) (C := RX6) (T := TX6) (N := 11) X Z hy0.i (hy0.c _) rfl inlX6 0 (by decide) wd_7_23 rfl dX6_weightIn_6 ?_
    refine lv_bipush (v := (73 : Int32)) hx hb dX6_weightIn_9 (by decide) ?_
    refine mx_iald X Z hy0.z (mx_lit (by decide)) dX6_weightIn_11 ?_
    refine mx_tops (s2 := [.int (G 247 73), .int (w3)]) rfl ?_
    refine lv_icmp_ge (tgt := 43) hx hb dX6_weightIn_12 (by decide) (fun h_1 => ?_) (fun h_1 => ?_)
    · replace hT := mx_t hT h_1
      cases hT
      exact k0 _ _ _ Z (lv_sub hl [0, 1, 2] rfl)
    · replace hT := mx_f hT h_1
      refine lv_iload_n hx hb dX6_weightIn_15 rfl (lv_at hl 2 rfl) ?_
      refine lv_aload_n hx hb dX6_weightIn_16 rfl (lv_at hl 0 rfl) ?_
      refine lv_iload_n hx hb dX6_weightIn_17 rfl (lv_at hl 3 rfl) ?_
      refine lv_iconst (v := (3 : Int32)) hx hb dX6_weightIn_18 (by decide) ?_
      obtain ⟨q_2, h_q_2, hT⟩ := mx_bind hT
      refine mx_callV (As := [.int (w3), .int ((3 : Int32))]) (rest := [.int (w2)]) (st1 := [.int (q_2), .int (w2)]) (C := RX6) (T := TX6) (N := 11) (ci := 6) X Z hl.1 (c6_of l E hJ hy0 _ _ _ _ h_q_2) wd_13_11 wd_13_12 wd_13_13 wd_1_5 wd_13_14 hd6_of ⟨Nat.le_trans (by decide) hR.1, Nat.le_trans (by decide) hR.2⟩ ⟨Nat.zero_le _, Nat.zero_le _⟩ hy0.i (hy0.c _) rfl (Nat.le_of_ble_eq_true rfl) rfl rfl dX6_weightIn_19 (fun H locs Z => ?_)
      refine lv_iload_n hx hb dX6_weightIn_22 rfl (lv_at hl 1 rfl) ?_
      refine lv_icmp_ne (tgt := 34) hx hb dX6_weightIn_23 (by decide) (fun h_3 => ?_) (fun h_3 => ?_)
      · replace hT := mx_f hT h_3
        refine lv_iconst (v := (0 : Int32)) hx hb dX6_weightIn_34 (by decide) ?_
        refine lv_iadd hx hb dX6_weightIn_35 ?_
        obtain ⟨v_4, e_v_4, hT⟩ := mx_nm hT
        refine mx_tops (congrArg (fun z => (.int (z) :: [] : List Value)) e_v_4) ?_
        refine lv_istore_n (lv' := [(2, .int (v_4)), (0, .ref (mad E (246))), (1, .int (y1)), (3, .int (w3))]) hx hb dX6_weightIn_36 rfl hl (by decide) rfl (fun ls hl => ?_)
        obtain ⟨v_5, e_v_5, hT⟩ := mx_nm hT
        refine lv_iinc (v := v_5) (lv' := [(3, .int (v_5)), (2, .int (v_4)), (0, .ref (mad E (246))), (1, .int (y1))]) hx hb dX6_weightIn_37 hl (k := 3) rfl (by rw [← e_v_5]; rfl) (by decide) rfl (fun ls hl => ?_)
        refine lv_goto (tgt := 4) hx hb dX6_weightIn_40 (by decide) ?_
        exact ih _ _ _ _ _ _ _ hT Z (lv_sub hl [2, 3, 1, 0] rfl) k0
      · replace hT := mx_t hT h_3
        refine lv_aload_n hx hb dX6_weightIn_26 rfl (lv_at hl 0 rfl) ?_
        refine lv_iload_n hx hb dX6_weightIn_27 rfl (lv_at hl 3 rfl) ?_
        obtain ⟨q_6, h_q_6, hT⟩ := mx_bind hT
        refine mx_callV (As := [.int (w3)]) (rest := [.int (w2)]) (st1 := [.int (q_6), .int (w2)]) (C := RX6) (T := TX6) (N := 11) (ci := 6) X Z hl.1 (c6_weight l E hJ hy0 _ _ _ h_q_6) wd_23_11 wd_23_12 wd_23_13 wd_1_5 wd_23_14 hd6_weight ⟨Nat.le_trans (by decide) hR.1, Nat.le_trans (by decide) hR.2⟩ ⟨Nat.zero_le _, Nat.zero_le _⟩ hy0.i (hy0.c _) rfl (Nat.le_of_ble_eq_true rfl) rfl rfl dX6_weightIn_28 (fun H locs Z => ?_)
        refine lv_goto (tgt := 35) hx hb dX6_weightIn_31 (by decide) ?_
        refine lv_iadd hx hb dX6_weightIn_35 ?_
        obtain ⟨v_7, e_v_7, hT⟩ := mx_nm hT
        refine mx_tops (congrArg (fun z => (.int (z) :: [] : List Value)) e_v_7) ?_
        refine lv_istore_n (lv' := [(2, .int (v_7)), (0, .ref (mad E (246))), (1, .int (y1)), (3, .int (w3))]) hx hb dX6_weightIn_36 rfl hl (by decide) rfl (fun ls hl => ?_)
        obtain ⟨v_8, e_v_8, hT⟩ := mx_nm hT
        refine lv_iinc (v := v_8) (lv' := [(3, .int (v_8)), (2, .int (v_7)), (0, .ref (mad E (246))), (1, .int (y1))]) hx hb dX6_weightIn_37 hl (k := 3) rfl (by rw [← e_v_8]; rfl) (by decide) rfl (fun ls hl => ?_)
        refine lv_goto (tgt := 4) hx hb dX6_weightIn_40 (by decide) ?_
        exact ih _ _ _ _ _ _ _ hT Z (lv_sub hl [2, 3, 1, 0] rfl) k0
set_option maxHeartbeats 4000000 in
set_option maxRecDepth 100000 in
theorem c6_weightIn (l : Launch) (E : mE) (hJ : mJ E) (hc : mMo E 246) (x1 : Int32) (G : mM) (q : Int32) (hT : x6_weightIn x1 G = some q) : mMet l E yX6_weightIn cX6_weightIn 4 (some .int) 2 43 [.ref (mad E (246)), .int (x1)] G (some (.int q)) G := by
  refine Met.ofW (cc := cX6_weightIn) (maxL := 4) (ret := (some .int)) (by decide) rfl ?_
  intro p e s m args below meth cd s₁ B hml hv
  obtain ⟨rfl, hP, hK, hS⟩ := hv
  have X := mx_entry (own := RX6) B hml hK hJ hS rfl
  have hx := X.1
  have hb := X.2.1
  have hown := X.2.2.2.1
  have hts := X.2.2.2.2.1
  have hr := B.returns
  have hlocks := B.notSynchronized
  have hR : 2 ≤ (headSpec (mWs yX6_weightIn cX6_weightIn 4 (some .int)) ({ frames := 2, cells := 0, slots := 0, locals := 43 })).room.frames ∧ 43 ≤ (headSpec (mWs yX6_weightIn cX6_weightIn 4 (some .int)) ({ frames := 2, cells := 0, slots := 0, locals := 43 })).room.locals := ⟨Nat.le_refl _, Nat.le_refl _⟩
  have Z : mZ E s.heap s.heap [] G := ⟨hP, va_S.rf⟩
  have hl := lv_entry ([.ref (mad E (246)), .int (x1)]) (n := 4) (Nat.le_of_ble_eq_true rfl)
  rw [lg_entry_eq]
  generalize (lg_sl ([.ref (mad E (246)), .int (x1)]) ++ List.replicate (4 - (lg_sl ([.ref (mad E (246)), .int (x1)])).length) Slot.unset).toArray = ls at hl ⊢
  have hl : lv_has ls 4 [(0, .ref (mad E (246))), (1, .int (x1))] := hl
  unfold x6_weightIn at hT
  refine lv_iconst (v := (0 : Int32)) hx hb dX6_weightIn_0 (by decide) ?_
  refine lv_istore_n (lv' := [(2, .int ((0 : Int32))), (0, .ref (mad E (246))), (1, .int (x1))]) hx hb dX6_weightIn_1 rfl hl (by decide) rfl (fun ls hl => ?_)
  refine lv_iconst (v := (0 : Int32)) hx hb dX6_weightIn_2 (by decide) ?_
  refine lv_istore_n (lv' := [(3, .int ((0 : Int32))), (2, .int ((0 : Int32))), (0, .ref (mad E (246))), (1, .int (x1))]) hx hb dX6_weightIn_3 rfl hl (by decide) rfl (fun ls hl => ?_)
  obtain ⟨q_9, h_q_9, hT⟩ := mx_bind hT
  refine k6_weightIn_4 X hR hJ hc _ _ _ _ _ _ _ _ _ h_q_9 Z (lv_sub (l' := [(0, .ref (mad E (246))), (1, .int (x1)), (2, .int ((0 : Int32))), (3, .int ((0 : Int32)))]) hl [2, 3, 1, 0] rfl) (fun H locs ls Z hl => ?_)
  · refine lv_iload_n hx hb dX6_weightIn_43 rfl (lv_at hl 2 rfl) ?_
    cases hT
    exact W.iret hx hb hr (fun t ht hW => mx_end Z t ht _) Z.2.2.2 dX6_weightIn_44
/-! PeatRailwayModel.between -/
def x6_between_L30 (y3 : Int32) (y4 : Int32) (y5 : Int32) : Nat → Int32 → Int32 → mM → Option (Int32)
  | 0, _, _, _ => none
  | n + 1, w6, w7, G =>
    if (G 247 73) ≤ w7 then
      some (w6)
    else
      (x6_of w7 ((3 : Int32)) G).bind fun q_4 =>
      if q_4 ≤ y4 then
        mNm (w6 + ((0 : Int32))) fun v_6 =>
        mNm (w7 + (1 : Int32)) fun v_7 =>
        x6_between_L30 y3 y4 y5 n v_6 v_7 G
      else
        (x6_of w7 ((3 : Int32)) G).bind fun q_8 =>
        if y5 ≤ q_8 then
          mNm (w6 + ((0 : Int32))) fun v_10 =>
          mNm (w7 + (1 : Int32)) fun v_11 =>
          x6_between_L30 y3 y4 y5 n v_10 v_11 G
        else
          (x6_of w7 ((4 : Int32)) G).bind fun q_12 =>
          if q_12 = y3 then
            mNm (w6 + ((1 : Int32))) fun v_16 =>
            mNm (w7 + (1 : Int32)) fun v_17 =>
            x6_between_L30 y3 y4 y5 n v_16 v_17 G
          else
            mNm (w6 + ((0 : Int32))) fun v_14 =>
            mNm (w7 + (1 : Int32)) fun v_15 =>
            x6_between_L30 y3 y4 y5 n v_14 v_15 G
def x6_between (x1 : Int32) (x2 : Int32) (x3 : Int32) (G : mM) : Option Int32 :=
  if x2 ≤ x1 then
    if x2 ≤ x1 then
      (x6_between_L30 x3 x2 x1 mFu ((0 : Int32)) ((0 : Int32)) G).bind fun q_18 =>
      some (q_18)
    else
      (x6_between_L30 x3 x2 x2 mFu ((0 : Int32)) ((0 : Int32)) G).bind fun q_19 =>
      some (q_19)
  else
    if x2 ≤ x1 then
      (x6_between_L30 x3 x1 x1 mFu ((0 : Int32)) ((0 : Int32)) G).bind fun q_21 =>
      some (q_21)
    else
      (x6_between_L30 x3 x1 x2 mFu ((0 : Int32)) ((0 : Int32)) G).bind fun q_22 =>
      some (q_22)
theorem hd6_between : yX6_between.cls = RX6 ∧ yX6_between.cls ≠ "java/lang/invoke/MethodHandle" ∧ yX6_between.cls ≠ "java/lang/invoke/VarHandle" ∧ (parseMethodDescriptor yX6_between.desc).map (fun d => d.parameters.length) = some 3 := by decide +kernel
set_option maxHeartbeats 4000000 in
set_option maxRecDepth 100000 in
theorem k6_between_30 {p : Program} {l : Launch} {e : Env} {R : Room} {s : State} {m : MethodId} {args : Array Value} {below : List Frame} {meth : Method} {cd : Code} {Q : State → Prop} {E : mE} (X : mX p s m args cd cX6_between 8 RX6 E) (hR : 1 ≤ R.frames ∧ 22 ≤ R.locals) (hJ : mJ E) (hy0 : mMo E 246) (y3 : Int32) (y4 : Int32) (y5 : Int32) : ∀ (n : Nat) (w6 : Int32) (w7 : Int32) (G : mM) (H : Heap) (locs : List Loc) (ls : Array Slot) (r : Int32), x6_between_L30 y3 y4 y5 n w6 w7 G = some r → mZ E s.heap H locs G → lv_has ls 8 [(0, .ref (mad E (246))), (3, .int (y3)), (4, .int (y4)), (5, .int (y5)), (6, .int (w6)), (7, .int (w7))] → (∀ (H : Heap) (locs : List Loc) (ls : Array Slot), mZ E s.heap H locs G → lv_has ls 8 [(0, .ref (mad E (246))), (3, .int (y3)), (4, .int (y4)), (5, .int (y5)), (6, .int (r))] → W p l e R s m args below meth cd H locs 0 0 Q (F0 m 93 ls [])) → W p l e R s m args below meth cd H locs 0 0 Q (F0 m 30 ls []) := by
  have hx := X.1
  have hb := X.2.1
  have hown := X.2.2.2.1
  have hts := X.2.2.2.2.1
  intro n
  induction n with
  | zero =>
    intro w6 w7 G H locs ls r hT
    rw [x6_between_L30] at hT
    cases hT
  | succ n ih =>
    intro w6 w7 G H locs ls r hT Z hl k0
    rw [x6_between_L30] at hT
    refine lv_iload hx hb dX6_between_30 (lv_at hl 5 rfl) ?_
    refine lv_aload_n hx hb dX6_between_32 rfl (lv_at hl 0 rfl) ?_
    refine mx_get (v := .ref (mad E (247))) (ci := 6) (C := RX6) (T := TX6) (N := 11) X Z hy0.i (hy0.c _) rfl inlX6 0 (by decide) wd_7_23 rfl dX6_between_33 ?_
    refine lv_bipush (v := (73 : Int32)) hx hb dX6_between_36 (by decide) ?_
    refine mx_iald X Z hy0.z (mx_lit (by decide)) dX6_between_38 ?_
    refine mx_tops (s2 := [.int (G 247 73), .int (w7)]) rfl ?_
    refine lv_icmp_ge (tgt := 93) hx hb dX6_between_39 (by decide) (fun h_3 => ?_) (fun h_3 => ?_)
    · replace hT := mx_t hT h_3
      cases hT
      exact k0 _ _ _ Z (lv_sub hl [0, 1, 2, 3, 4] rfl)
    · replace hT := mx_f hT h_3
      refine lv_iload hx hb dX6_between_42 (lv_at hl 4 rfl) ?_
      refine lv_aload_n hx hb dX6_between_44 rfl (lv_at hl 0 rfl) ?_
      refine lv_iload hx hb dX6_between_45 (lv_at hl 5 rfl) ?_
      refine lv_iconst (v := (3 : Int32)) hx hb dX6_between_47 (by decide) ?_
      obtain ⟨q_4, h_q_4, hT⟩ := mx_bind hT
      refine mx_callV (As := [.int (w7), .int ((3 : Int32))]) (rest := [.int (w6)]) (st1 := [.int (q_4), .int (w6)]) (C := RX6) (T := TX6) (N := 11) (ci := 6) X Z hl.1 (c6_of l E hJ hy0 _ _ _ _ h_q_4) wd_13_11 wd_13_12 wd_13_13 wd_1_5 wd_13_14 hd6_of ⟨Nat.le_trans (by decide) hR.1, Nat.le_trans (by decide) hR.2⟩ ⟨Nat.zero_le _, Nat.zero_le _⟩ hy0.i (hy0.c _) rfl (Nat.le_of_ble_eq_true rfl) rfl rfl dX6_between_48 (fun H locs Z => ?_)
      refine lv_iload hx hb dX6_between_51 (lv_at hl 2 rfl) ?_
      refine lv_icmp_le (tgt := 83) hx hb dX6_between_53 (by decide) (fun h_5 => ?_) (fun h_5 => ?_)
      · replace hT := mx_t hT h_5
        refine lv_iconst (v := (0 : Int32)) hx hb dX6_between_83 (by decide) ?_
        refine lv_iadd hx hb dX6_between_84 ?_
        obtain ⟨v_6, e_v_6, hT⟩ := mx_nm hT
        refine mx_tops (congrArg (fun z => (.int (z) :: [] : List Value)) e_v_6) ?_
        refine lv_istore (lv' := [(6, .int (v_6)), (0, .ref (mad E (246))), (3, .int (y3)), (4, .int (y4)), (5, .int (y5)), (7, .int (w7))]) hx hb dX6_between_85 hl (by decide) rfl (fun ls hl => ?_)
        obtain ⟨v_7, e_v_7, hT⟩ := mx_nm hT
        refine lv_iinc (v := v_7) (lv' := [(7, .int (v_7)), (6, .int (v_6)), (0, .ref (mad E (246))), (3, .int (y3)), (4, .int (y4)), (5, .int (y5))]) hx hb dX6_between_87 hl (k := 5) rfl (by rw [← e_v_7]; rfl) (by decide) rfl (fun ls hl => ?_)
        refine lv_goto (tgt := 30) hx hb dX6_between_90 (by decide) ?_
        exact ih _ _ _ _ _ _ _ hT Z (lv_sub hl [2, 3, 4, 5, 1, 0] rfl) k0
      · replace hT := mx_f hT h_5
        refine lv_aload_n hx hb dX6_between_56 rfl (lv_at hl 0 rfl) ?_
        refine lv_iload hx hb dX6_between_57 (lv_at hl 5 rfl) ?_
        refine lv_iconst (v := (3 : Int32)) hx hb dX6_between_59 (by decide) ?_
        obtain ⟨q_8, h_q_8, hT⟩ := mx_bind hT
        refine mx_callV (As := [.int (w7), .int ((3 : Int32))]) (rest := [.int (w6)]) (st1 := [.int (q_8), .int (w6)]) (C := RX6) (T := TX6) (N := 11) (ci := 6) X Z hl.1 (c6_of l E hJ hy0 _ _ _ _ h_q_8) wd_13_11 wd_13_12 wd_13_13 wd_1_5 wd_13_14 hd6_of ⟨Nat.le_trans (by decide) hR.1, Nat.le_trans (by decide) hR.2⟩ ⟨Nat.zero_le _, Nat.zero_le _⟩ hy0.i (hy0.c _) rfl (Nat.le_of_ble_eq_true rfl) rfl rfl dX6_between_60 (fun H locs Z => ?_)
        refine lv_iload hx hb dX6_between_63 (lv_at hl 3 rfl) ?_
        refine lv_icmp_ge (tgt := 83) hx hb dX6_between_65 (by decide) (fun h_9 => ?_) (fun h_9 => ?_)
        · replace hT := mx_t hT h_9
          refine lv_iconst (v := (0 : Int32)) hx hb dX6_between_83 (by decide) ?_
          refine lv_iadd hx hb dX6_between_84 ?_
          obtain ⟨v_10, e_v_10, hT⟩ := mx_nm hT
          refine mx_tops (congrArg (fun z => (.int (z) :: [] : List Value)) e_v_10) ?_
          refine lv_istore (lv' := [(6, .int (v_10)), (0, .ref (mad E (246))), (3, .int (y3)), (4, .int (y4)), (5, .int (y5)), (7, .int (w7))]) hx hb dX6_between_85 hl (by decide) rfl (fun ls hl => ?_)
          obtain ⟨v_11, e_v_11, hT⟩ := mx_nm hT
          refine lv_iinc (v := v_11) (lv' := [(7, .int (v_11)), (6, .int (v_10)), (0, .ref (mad E (246))), (3, .int (y3)), (4, .int (y4)), (5, .int (y5))]) hx hb dX6_between_87 hl (k := 5) rfl (by rw [← e_v_11]; rfl) (by decide) rfl (fun ls hl => ?_)
          refine lv_goto (tgt := 30) hx hb dX6_between_90 (by decide) ?_
          exact ih _ _ _ _ _ _ _ hT Z (lv_sub hl [2, 3, 4, 5, 1, 0] rfl) k0
        · replace hT := mx_f hT h_9
          refine lv_aload_n hx hb dX6_between_68 rfl (lv_at hl 0 rfl) ?_
          refine lv_iload hx hb dX6_between_69 (lv_at hl 5 rfl) ?_
          refine lv_iconst (v := (4 : Int32)) hx hb dX6_between_71 (by decide) ?_
          obtain ⟨q_12, h_q_12, hT⟩ := mx_bind hT
          refine mx_callV (As := [.int (w7), .int ((4 : Int32))]) (rest := [.int (w6)]) (st1 := [.int (q_12), .int (w6)]) (C := RX6) (T := TX6) (N := 11) (ci := 6) X Z hl.1 (c6_of l E hJ hy0 _ _ _ _ h_q_12) wd_13_11 wd_13_12 wd_13_13 wd_1_5 wd_13_14 hd6_of ⟨Nat.le_trans (by decide) hR.1, Nat.le_trans (by decide) hR.2⟩ ⟨Nat.zero_le _, Nat.zero_le _⟩ hy0.i (hy0.c _) rfl (Nat.le_of_ble_eq_true rfl) rfl rfl dX6_between_72 (fun H locs Z => ?_)
          refine lv_iload_n hx hb dX6_between_75 rfl (lv_at hl 1 rfl) ?_
          refine lv_icmp_ne (tgt := 83) hx hb dX6_between_76 (by decide) (fun h_13 => ?_) (fun h_13 => ?_)
          · replace hT := mx_f hT h_13
            refine lv_iconst (v := (0 : Int32)) hx hb dX6_between_83 (by decide) ?_
            refine lv_iadd hx hb dX6_between_84 ?_
            obtain ⟨v_14, e_v_14, hT⟩ := mx_nm hT
            refine mx_tops (congrArg (fun z => (.int (z) :: [] : List Value)) e_v_14) ?_
            refine lv_istore (lv' := [(6, .int (v_14)), (0, .ref (mad E (246))), (3, .int (y3)), (4, .int (y4)), (5, .int (y5)), (7, .int (w7))]) hx hb dX6_between_85 hl (by decide) rfl (fun ls hl => ?_)
            obtain ⟨v_15, e_v_15, hT⟩ := mx_nm hT
            refine lv_iinc (v := v_15) (lv' := [(7, .int (v_15)), (6, .int (v_14)), (0, .ref (mad E (246))), (3, .int (y3)), (4, .int (y4)), (5, .int (y5))]) hx hb dX6_between_87 hl (k := 5) rfl (by rw [← e_v_15]; rfl) (by decide) rfl (fun ls hl => ?_)
            refine lv_goto (tgt := 30) hx hb dX6_between_90 (by decide) ?_
            exact ih _ _ _ _ _ _ _ hT Z (lv_sub hl [2, 3, 4, 5, 1, 0] rfl) k0
          · replace hT := mx_t hT h_13
            refine lv_iconst (v := (1 : Int32)) hx hb dX6_between_79 (by decide) ?_
            refine lv_goto (tgt := 84) hx hb dX6_between_80 (by decide) ?_
            refine lv_iadd hx hb dX6_between_84 ?_
            obtain ⟨v_16, e_v_16, hT⟩ := mx_nm hT
            refine mx_tops (congrArg (fun z => (.int (z) :: [] : List Value)) e_v_16) ?_
            refine lv_istore (lv' := [(6, .int (v_16)), (0, .ref (mad E (246))), (3, .int (y3)), (4, .int (y4)), (5, .int (y5)), (7, .int (w7))]) hx hb dX6_between_85 hl (by decide) rfl (fun ls hl => ?_)
            obtain ⟨v_17, e_v_17, hT⟩ := mx_nm hT
            refine lv_iinc (v := v_17) (lv' := [(7, .int (v_17)), (6, .int (v_16)), (0, .ref (mad E (246))), (3, .int (y3)), (4, .int (y4)), (5, .int (y5))]) hx hb dX6_between_87 hl (k := 5) rfl (by rw [← e_v_17]; rfl) (by decide) rfl (fun ls hl => ?_)
            refine lv_goto (tgt := 30) hx hb dX6_between_90 (by decide) ?_
            exact ih _ _ _ _ _ _ _ hT Z (lv_sub hl [2, 3, 4, 5, 1, 0] rfl) k0
set_option maxHeartbeats 4000000 in
set_option maxRecDepth 100000 in
theorem c6_between (l : Launch) (E : mE) (hJ : mJ E) (hc : mMo E 246) (x1 : Int32) (x2 : Int32) (x3 : Int32) (G : mM) (q : Int32) (hT : x6_between x1 x2 x3 G = some q) : mMet l E yX6_between cX6_between 8 (some .int) 1 22 [.ref (mad E (246)), .int (x1), .int (x2), .int (x3)] G (some (.int q)) G := by
  refine Met.ofW (cc := cX6_between) (maxL := 8) (ret := (some .int)) (by decide) rfl ?_
  intro p e s m args below meth cd s₁ B hml hv
  obtain ⟨rfl, hP, hK, hS⟩ := hv
  have X := mx_entry (own := RX6) B hml hK hJ hS rfl
  have hx := X.1
  have hb := X.2.1
  have hown := X.2.2.2.1
  have hts := X.2.2.2.2.1
  have hr := B.returns
  have hlocks := B.notSynchronized
  have hR : 1 ≤ (headSpec (mWs yX6_between cX6_between 8 (some .int)) ({ frames := 1, cells := 0, slots := 0, locals := 22 })).room.frames ∧ 22 ≤ (headSpec (mWs yX6_between cX6_between 8 (some .int)) ({ frames := 1, cells := 0, slots := 0, locals := 22 })).room.locals := ⟨Nat.le_refl _, Nat.le_refl _⟩
  have Z : mZ E s.heap s.heap [] G := ⟨hP, va_S.rf⟩
  have hl := lv_entry ([.ref (mad E (246)), .int (x1), .int (x2), .int (x3)]) (n := 8) (Nat.le_of_ble_eq_true rfl)
  rw [lg_entry_eq]
  generalize (lg_sl ([.ref (mad E (246)), .int (x1), .int (x2), .int (x3)]) ++ List.replicate (8 - (lg_sl ([.ref (mad E (246)), .int (x1), .int (x2), .int (x3)])).length) Slot.unset).toArray = ls at hl ⊢
  have hl : lv_has ls 8 [(0, .ref (mad E (246))), (1, .int (x1)), (2, .int (x2)), (3, .int (x3))] := hl
  unfold x6_between at hT
  refine lv_iload_n hx hb dX6_between_0 rfl (lv_at hl 1 rfl) ?_
  refine lv_iload_n hx hb dX6_between_1 rfl (lv_at hl 2 rfl) ?_
  refine lv_icmp_ge (tgt := 9) hx hb dX6_between_2 (by decide) (fun h_1 => ?_) (fun h_1 => ?_)
  · replace hT := mx_t hT h_1
    refine lv_iload_n hx hb dX6_between_9 rfl (lv_at hl 2 rfl) ?_
    refine lv_istore (lv' := [(4, .int (x2)), (0, .ref (mad E (246))), (1, .int (x1)), (2, .int (x2)), (3, .int (x3))]) hx hb dX6_between_10 hl (by decide) rfl (fun ls hl => ?_)
    refine lv_iload_n hx hb dX6_between_12 rfl (lv_at hl 2 rfl) ?_
    refine lv_iload_n hx hb dX6_between_13 rfl (lv_at hl 3 rfl) ?_
    refine lv_icmp_ge (tgt := 21) hx hb dX6_between_14 (by decide) (fun h_2 => ?_) (fun h_2 => ?_)
    · replace hT := mx_t hT h_2
      refine lv_iload_n hx hb dX6_between_21 rfl (lv_at hl 2 rfl) ?_
      refine lv_istore (lv' := [(5, .int (x1)), (4, .int (x2)), (0, .ref (mad E (246))), (1, .int (x1)), (2, .int (x2)), (3, .int (x3))]) hx hb dX6_between_22 hl (by decide) rfl (fun ls hl => ?_)
      refine lv_iconst (v := (0 : Int32)) hx hb dX6_between_24 (by decide) ?_
      refine lv_istore (lv' := [(6, .int ((0 : Int32))), (5, .int (x1)), (4, .int (x2)), (0, .ref (mad E (246))), (1, .int (x1)), (2, .int (x2)), (3, .int (x3))]) hx hb dX6_between_25 hl (by decide) rfl (fun ls hl => ?_)
      refine lv_iconst (v := (0 : Int32)) hx hb dX6_between_27 (by decide) ?_
      refine lv_istore (lv' := [(7, .int ((0 : Int32))), (6, .int ((0 : Int32))), (5, .int (x1)), (4, .int (x2)), (0, .ref (mad E (246))), (1, .int (x1)), (2, .int (x2)), (3, .int (x3))]) hx hb dX6_between_28 hl (by decide) rfl (fun ls hl => ?_)
      obtain ⟨q_18, h_q_18, hT⟩ := mx_bind hT
      refine k6_between_30 X hR hJ hc _ _ _ _ _ _ _ _ _ _ _ h_q_18 Z (lv_sub (l' := [(0, .ref (mad E (246))), (3, .int (x3)), (4, .int (x2)), (5, .int (x1)), (6, .int ((0 : Int32))), (7, .int ((0 : Int32)))]) hl [4, 7, 3, 2, 1, 0] rfl) (fun H locs ls Z hl => ?_)
      · refine lv_iload hx hb dX6_between_93 (lv_at hl 4 rfl) ?_
        cases hT
        exact W.iret hx hb hr (fun t ht hW => mx_end Z t ht _) Z.2.2.2 dX6_between_95
    · replace hT := mx_f hT h_2
      refine lv_iload_n hx hb dX6_between_17 rfl (lv_at hl 3 rfl) ?_
      refine lv_goto (tgt := 22) hx hb dX6_between_18 (by decide) ?_
      refine lv_istore (lv' := [(5, .int (x2)), (4, .int (x2)), (0, .ref (mad E (246))), (1, .int (x1)), (2, .int (x2)), (3, .int (x3))]) hx hb dX6_between_22 hl (by decide) rfl (fun ls hl => ?_)
      refine lv_iconst (v := (0 : Int32)) hx hb dX6_between_24 (by decide) ?_
      refine lv_istore (lv' := [(6, .int ((0 : Int32))), (5, .int (x2)), (4, .int (x2)), (0, .ref (mad E (246))), (1, .int (x1)), (2, .int (x2)), (3, .int (x3))]) hx hb dX6_between_25 hl (by decide) rfl (fun ls hl => ?_)
      refine lv_iconst (v := (0 : Int32)) hx hb dX6_between_27 (by decide) ?_
      refine lv_istore (lv' := [(7, .int ((0 : Int32))), (6, .int ((0 : Int32))), (5, .int (x2)), (4, .int (x2)), (0, .ref (mad E (246))), (1, .int (x1)), (2, .int (x2)), (3, .int (x3))]) hx hb dX6_between_28 hl (by decide) rfl (fun ls hl => ?_)
      obtain ⟨q_19, h_q_19, hT⟩ := mx_bind hT
      refine k6_between_30 X hR hJ hc _ _ _ _ _ _ _ _ _ _ _ h_q_19 Z (lv_sub (l' := [(0, .ref (mad E (246))), (3, .int (x3)), (4, .int (x2)), (5, .int (x2)), (6, .int ((0 : Int32))), (7, .int ((0 : Int32)))]) hl [4, 7, 3, 2, 1, 0] rfl) (fun H locs ls Z hl => ?_)
      · refine lv_iload hx hb dX6_between_93 (lv_at hl 4 rfl) ?_
        cases hT
        exact W.iret hx hb hr (fun t ht hW => mx_end Z t ht _) Z.2.2.2 dX6_between_95
  · replace hT := mx_f hT h_1
    refine lv_iload_n hx hb dX6_between_5 rfl (lv_at hl 1 rfl) ?_
    refine lv_goto (tgt := 10) hx hb dX6_between_6 (by decide) ?_
    refine lv_istore (lv' := [(4, .int (x1)), (0, .ref (mad E (246))), (1, .int (x1)), (2, .int (x2)), (3, .int (x3))]) hx hb dX6_between_10 hl (by decide) rfl (fun ls hl => ?_)
    refine lv_iload_n hx hb dX6_between_12 rfl (lv_at hl 2 rfl) ?_
    refine lv_iload_n hx hb dX6_between_13 rfl (lv_at hl 3 rfl) ?_
    refine lv_icmp_ge (tgt := 21) hx hb dX6_between_14 (by decide) (fun h_20 => ?_) (fun h_20 => ?_)
    · replace hT := mx_t hT h_20
      refine lv_iload_n hx hb dX6_between_21 rfl (lv_at hl 2 rfl) ?_
      refine lv_istore (lv' := [(5, .int (x1)), (4, .int (x1)), (0, .ref (mad E (246))), (1, .int (x1)), (2, .int (x2)), (3, .int (x3))]) hx hb dX6_between_22 hl (by decide) rfl (fun ls hl => ?_)
      refine lv_iconst (v := (0 : Int32)) hx hb dX6_between_24 (by decide) ?_
      refine lv_istore (lv' := [(6, .int ((0 : Int32))), (5, .int (x1)), (4, .int (x1)), (0, .ref (mad E (246))), (1, .int (x1)), (2, .int (x2)), (3, .int (x3))]) hx hb dX6_between_25 hl (by decide) rfl (fun ls hl => ?_)
      refine lv_iconst (v := (0 : Int32)) hx hb dX6_between_27 (by decide) ?_
      refine lv_istore (lv' := [(7, .int ((0 : Int32))), (6, .int ((0 : Int32))), (5, .int (x1)), (4, .int (x1)), (0, .ref (mad E (246))), (1, .int (x1)), (2, .int (x2)), (3, .int (x3))]) hx hb dX6_between_28 hl (by decide) rfl (fun ls hl => ?_)
      obtain ⟨q_21, h_q_21, hT⟩ := mx_bind hT
      refine k6_between_30 X hR hJ hc _ _ _ _ _ _ _ _ _ _ _ h_q_21 Z (lv_sub (l' := [(0, .ref (mad E (246))), (3, .int (x3)), (4, .int (x1)), (5, .int (x1)), (6, .int ((0 : Int32))), (7, .int ((0 : Int32)))]) hl [4, 7, 3, 2, 1, 0] rfl) (fun H locs ls Z hl => ?_)
      · refine lv_iload hx hb dX6_between_93 (lv_at hl 4 rfl) ?_
        cases hT
        exact W.iret hx hb hr (fun t ht hW => mx_end Z t ht _) Z.2.2.2 dX6_between_95
    · replace hT := mx_f hT h_20
      refine lv_iload_n hx hb dX6_between_17 rfl (lv_at hl 3 rfl) ?_
      refine lv_goto (tgt := 22) hx hb dX6_between_18 (by decide) ?_
      refine lv_istore (lv' := [(5, .int (x2)), (4, .int (x1)), (0, .ref (mad E (246))), (1, .int (x1)), (2, .int (x2)), (3, .int (x3))]) hx hb dX6_between_22 hl (by decide) rfl (fun ls hl => ?_)
      refine lv_iconst (v := (0 : Int32)) hx hb dX6_between_24 (by decide) ?_
      refine lv_istore (lv' := [(6, .int ((0 : Int32))), (5, .int (x2)), (4, .int (x1)), (0, .ref (mad E (246))), (1, .int (x1)), (2, .int (x2)), (3, .int (x3))]) hx hb dX6_between_25 hl (by decide) rfl (fun ls hl => ?_)
      refine lv_iconst (v := (0 : Int32)) hx hb dX6_between_27 (by decide) ?_
      refine lv_istore (lv' := [(7, .int ((0 : Int32))), (6, .int ((0 : Int32))), (5, .int (x2)), (4, .int (x1)), (0, .ref (mad E (246))), (1, .int (x1)), (2, .int (x2)), (3, .int (x3))]) hx hb dX6_between_28 hl (by decide) rfl (fun ls hl => ?_)
      obtain ⟨q_22, h_q_22, hT⟩ := mx_bind hT
      refine k6_between_30 X hR hJ hc _ _ _ _ _ _ _ _ _ _ _ h_q_22 Z (lv_sub (l' := [(0, .ref (mad E (246))), (3, .int (x3)), (4, .int (x1)), (5, .int (x2)), (6, .int ((0 : Int32))), (7, .int ((0 : Int32)))]) hl [4, 7, 3, 2, 1, 0] rfl) (fun H locs ls Z hl => ?_)
      · refine lv_iload hx hb dX6_between_93 (lv_at hl 4 rfl) ?_
        cases hT
        exact W.iret hx hb hr (fun t ht hW => mx_end Z t ht _) Z.2.2.2 dX6_between_95
/-! PeatRailwayModel.wanted -/
def x6_wanted (x1 : Int32) (G : mM) : Option Int32 :=
  (x6_of x1 ((0 : Int32)) G).bind fun q_1 =>
  (x6_of x1 ((1 : Int32)) G).bind fun q_2 =>
  some (q_1 * q_2)
theorem hd6_wanted : yX6_wanted.cls = RX6 ∧ yX6_wanted.cls ≠ "java/lang/invoke/MethodHandle" ∧ yX6_wanted.cls ≠ "java/lang/invoke/VarHandle" ∧ (parseMethodDescriptor yX6_wanted.desc).map (fun d => d.parameters.length) = some 1 := by decide +kernel
set_option maxHeartbeats 4000000 in
set_option maxRecDepth 100000 in
theorem c6_wanted (l : Launch) (E : mE) (hJ : mJ E) (hc : mMo E 246) (x1 : Int32) (G : mM) (q : Int32) (hT : x6_wanted x1 G = some q) : mMet l E yX6_wanted cX6_wanted 2 (some .int) 1 22 [.ref (mad E (246)), .int (x1)] G (some (.int q)) G := by
  refine Met.ofW (cc := cX6_wanted) (maxL := 2) (ret := (some .int)) (by decide) rfl ?_
  intro p e s m args below meth cd s₁ B hml hv
  obtain ⟨rfl, hP, hK, hS⟩ := hv
  have X := mx_entry (own := RX6) B hml hK hJ hS rfl
  have hx := X.1
  have hb := X.2.1
  have hown := X.2.2.2.1
  have hts := X.2.2.2.2.1
  have hr := B.returns
  have hlocks := B.notSynchronized
  have hR : 1 ≤ (headSpec (mWs yX6_wanted cX6_wanted 2 (some .int)) ({ frames := 1, cells := 0, slots := 0, locals := 22 })).room.frames ∧ 22 ≤ (headSpec (mWs yX6_wanted cX6_wanted 2 (some .int)) ({ frames := 1, cells := 0, slots := 0, locals := 22 })).room.locals := ⟨Nat.le_refl _, Nat.le_refl _⟩
  have Z : mZ E s.heap s.heap [] G := ⟨hP, va_S.rf⟩
  have hl := lv_entry ([.ref (mad E (246)), .int (x1)]) (n := 2) (Nat.le_of_ble_eq_true rfl)
  rw [lg_entry_eq]
  generalize (lg_sl ([.ref (mad E (246)), .int (x1)]) ++ List.replicate (2 - (lg_sl ([.ref (mad E (246)), .int (x1)])).length) Slot.unset).toArray = ls at hl ⊢
  have hl : lv_has ls 2 [(0, .ref (mad E (246))), (1, .int (x1))] := hl
  unfold x6_wanted at hT
  refine lv_aload_n hx hb dX6_wanted_0 rfl (lv_at hl 0 rfl) ?_
  refine lv_iload_n hx hb dX6_wanted_1 rfl (lv_at hl 1 rfl) ?_
  refine lv_iconst (v := (0 : Int32)) hx hb dX6_wanted_2 (by decide) ?_
  obtain ⟨q_1, h_q_1, hT⟩ := mx_bind hT
  refine mx_callV (As := [.int (x1), .int ((0 : Int32))]) (rest := []) (st1 := [.int (q_1)]) (C := RX6) (T := TX6) (N := 11) (ci := 6) X Z hl.1 (c6_of l E hJ hc _ _ _ _ h_q_1) wd_13_11 wd_13_12 wd_13_13 wd_1_5 wd_13_14 hd6_of ⟨Nat.le_trans (by decide) hR.1, Nat.le_trans (by decide) hR.2⟩ ⟨Nat.zero_le _, Nat.zero_le _⟩ hc.i (hc.c _) rfl (Nat.le_of_ble_eq_true rfl) rfl rfl dX6_wanted_3 (fun H locs Z => ?_)
  refine lv_aload_n hx hb dX6_wanted_6 rfl (lv_at hl 0 rfl) ?_
  refine lv_iload_n hx hb dX6_wanted_7 rfl (lv_at hl 1 rfl) ?_
  refine lv_iconst (v := (1 : Int32)) hx hb dX6_wanted_8 (by decide) ?_
  obtain ⟨q_2, h_q_2, hT⟩ := mx_bind hT
  refine mx_callV (As := [.int (x1), .int ((1 : Int32))]) (rest := [.int (q_1)]) (st1 := [.int (q_2), .int (q_1)]) (C := RX6) (T := TX6) (N := 11) (ci := 6) X Z hl.1 (c6_of l E hJ hc _ _ _ _ h_q_2) wd_13_11 wd_13_12 wd_13_13 wd_1_5 wd_13_14 hd6_of ⟨Nat.le_trans (by decide) hR.1, Nat.le_trans (by decide) hR.2⟩ ⟨Nat.zero_le _, Nat.zero_le _⟩ hc.i (hc.c _) rfl (Nat.le_of_ble_eq_true rfl) rfl rfl dX6_wanted_9 (fun H locs Z => ?_)
  refine lv_imul hx hb dX6_wanted_12 ?_
  cases hT
  exact W.iret hx hb hr (fun t ht hW => mx_end Z t ht _) Z.2.2.2 dX6_wanted_13
