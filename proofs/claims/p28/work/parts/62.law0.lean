/-! PeatRailwayLaw.at -/
def xL_at (x0 : Int32) (x1 : Int32) (G : mM) : Option Int32 :=
  mCk (¬ x1 = 0) <|
  some (((x0.toUInt32 >>> (((1 : Int32)).toUInt32 &&& Int32.toUInt32 31)).toInt32) - ((x0.toUInt32 >>> (((1 : Int32)).toUInt32 &&& Int32.toUInt32 31)).toInt32) / x1 * x1)
theorem hdL_at : yL_at.cls ≠ "java/lang/invoke/MethodHandle" ∧ yL_at.cls ≠ "java/lang/invoke/VarHandle" ∧ (parseMethodDescriptor yL_at.desc).map (fun d => d.parameters.length) = some 2 := by decide +kernel
set_option maxHeartbeats 4000000 in
set_option maxRecDepth 100000 in
theorem mL_at (l : Launch) (E : mE) (hJ : mJ E) (x0 : Int32) (x1 : Int32) (G : mM) (q : Int32) (hT : xL_at x0 x1 G = some q) : mMet l E yL_at cL_at 2 (some .int) 0 0 [.int (x0), .int (x1)] G (some (.int q)) G := by
  refine Met.ofW (cc := cL_at) (maxL := 2) (ret := (some .int)) (by decide) rfl ?_
  intro p e s m args below meth cd s₁ B hml hv
  obtain ⟨rfl, hP, hK, hS⟩ := hv
  have X := mx_entry (own := RL) B hml hK hJ hS rfl
  have hx := X.1
  have hb := X.2.1
  have hown := X.2.2.2.1
  have hts := X.2.2.2.2.1
  have hr := B.returns
  have hlocks := B.notSynchronized
  have hR : 0 ≤ (headSpec (mWs yL_at cL_at 2 (some .int)) ({ frames := 0, cells := 0, slots := 0, locals := 0 })).room.frames ∧ 0 ≤ (headSpec (mWs yL_at cL_at 2 (some .int)) ({ frames := 0, cells := 0, slots := 0, locals := 0 })).room.locals := ⟨Nat.le_refl _, Nat.le_refl _⟩
  have Z : mZ E s.heap s.heap [] G := ⟨hP, va_S.rf⟩
  have hl := lv_entry ([.int (x0), .int (x1)]) (n := 2) (Nat.le_of_ble_eq_true rfl)
  rw [lg_entry_eq]
  generalize (lg_sl ([.int (x0), .int (x1)]) ++ List.replicate (2 - (lg_sl ([.int (x0), .int (x1)])).length) Slot.unset).toArray = ls at hl ⊢
  have hl : lv_has ls 2 [(0, .int (x0)), (1, .int (x1))] := hl
  unfold xL_at at hT
  refine lv_iload_n hx hb dL_at_0 rfl (lv_at hl 0 rfl) ?_
  refine lv_iconst (v := (1 : Int32)) hx hb dL_at_1 (by decide) ?_
  refine lv_iushr (v := (x0.toUInt32 >>> (((1 : Int32)).toUInt32 &&& Int32.toUInt32 31)).toInt32) hx hb dL_at_2 rfl ?_
  refine lv_iload_n hx hb dL_at_3 rfl (lv_at hl 1 rfl) ?_
  obtain ⟨h_1, hT⟩ := mx_chk hT
  refine lv_irem hx hb dL_at_4 h_1 ?_
  cases hT
  exact W.iret hx hb hr (fun t ht hW => mx_end Z t ht _) Z.2.2.2 dL_at_5
/-! PeatRailwayLaw.passing -/
def xL_passing (x0 : Int32) (a1 : Nat) (n1 : Nat) (a2 : Nat) (n2 : Nat) (G : mM) : Option Int32 :=
  if x0 = 0 then
    some ((1 : Int32))
  else
    mCk (mIn ((0 : Int32)) n1) <|
    if x0 = ((G a1 (((0 : Int32)).toNatClampNeg)) - ((1 : Int32))) then
      some ((1 : Int32))
    else
      mCk (mIn ((((3 : Int32)) * x0) + ((1 : Int32))) n2) <|
      if (G a2 (((((3 : Int32)) * x0) + ((1 : Int32))).toNatClampNeg)) = ((1 : Int32)) then
        some ((1 : Int32))
      else
        some ((0 : Int32))
theorem hdL_passing : yL_passing.cls ≠ "java/lang/invoke/MethodHandle" ∧ yL_passing.cls ≠ "java/lang/invoke/VarHandle" ∧ (parseMethodDescriptor yL_passing.desc).map (fun d => d.parameters.length) = some 3 := by decide +kernel
set_option maxHeartbeats 4000000 in
set_option maxRecDepth 100000 in
theorem mL_passing (l : Launch) (E : mE) (hJ : mJ E) {a1 : Nat} {n1 : Nat} {a2 : Nat} {n2 : Nat} (ha1 : mAi E a1 1 n1) (ha2 : mAi E a2 1 n2) (x0 : Int32) (G : mM) (q : Int32) (hT : xL_passing x0 a1 n1 a2 n2 G = some q) : mMet l E yL_passing cL_passing 3 (some .boolean) 0 0 [.int (x0), .ref (mad E (a1)), .ref (mad E (a2))] G (some (.int q)) G := by
  refine Met.ofW (cc := cL_passing) (maxL := 3) (ret := (some .boolean)) (by decide) rfl ?_
  intro p e s m args below meth cd s₁ B hml hv
  obtain ⟨rfl, hP, hK, hS⟩ := hv
  have X := mx_entry (own := RL) B hml hK hJ hS rfl
  have hx := X.1
  have hb := X.2.1
  have hown := X.2.2.2.1
  have hts := X.2.2.2.2.1
  have hr := B.returns
  have hlocks := B.notSynchronized
  have hR : 0 ≤ (headSpec (mWs yL_passing cL_passing 3 (some .boolean)) ({ frames := 0, cells := 0, slots := 0, locals := 0 })).room.frames ∧ 0 ≤ (headSpec (mWs yL_passing cL_passing 3 (some .boolean)) ({ frames := 0, cells := 0, slots := 0, locals := 0 })).room.locals := ⟨Nat.le_refl _, Nat.le_refl _⟩
  have Z : mZ E s.heap s.heap [] G := ⟨hP, va_S.rf⟩
  have hl := lv_entry ([.int (x0), .ref (mad E (a1)), .ref (mad E (a2))]) (n := 3) (Nat.le_of_ble_eq_true rfl)
  rw [lg_entry_eq]
  generalize (lg_sl ([.int (x0), .ref (mad E (a1)), .ref (mad E (a2))]) ++ List.replicate (3 - (lg_sl ([.int (x0), .ref (mad E (a1)), .ref (mad E (a2))])).length) Slot.unset).toArray = ls at hl ⊢
  have hl : lv_has ls 3 [(0, .int (x0)), (1, .ref (mad E (a1))), (2, .ref (mad E (a2)))] := hl
  unfold xL_passing at hT
  refine lv_iload_n hx hb dL_passing_0 rfl (lv_at hl 0 rfl) ?_
  refine lv_if_eq (tgt := 24) hx hb dL_passing_1 (by decide) (fun h_1 => ?_) (fun h_1 => ?_)
  · replace hT := mx_t hT h_1
    refine lv_iconst (v := (1 : Int32)) hx hb dL_passing_24 (by decide) ?_
    refine lv_goto (tgt := 29) hx hb dL_passing_25 (by decide) ?_
    cases hT
    exact W.zret (v := (1 : Int32)) hx hb hr rfl (fun t ht hW => mx_end Z t ht _) Z.2.2.2 dL_passing_29
  · replace hT := mx_f hT h_1
    refine lv_iload_n hx hb dL_passing_4 rfl (lv_at hl 0 rfl) ?_
    refine lv_aload_n hx hb dL_passing_5 rfl (lv_at hl 1 rfl) ?_
    refine lv_iconst (v := (0 : Int32)) hx hb dL_passing_6 (by decide) ?_
    obtain ⟨h_2, hT⟩ := mx_chk hT
    refine mx_iald X Z ha1 h_2 dL_passing_7 ?_
    refine mx_tops (s2 := [.int (G a1 (((0 : Int32)).toNatClampNeg)), .int (x0)]) rfl ?_
    refine lv_iconst (v := (1 : Int32)) hx hb dL_passing_8 (by decide) ?_
    refine lv_isub hx hb dL_passing_9 ?_
    refine lv_icmp_eq (tgt := 24) hx hb dL_passing_10 (by decide) (fun h_3 => ?_) (fun h_3 => ?_)
    · replace hT := mx_t hT h_3
      refine lv_iconst (v := (1 : Int32)) hx hb dL_passing_24 (by decide) ?_
      refine lv_goto (tgt := 29) hx hb dL_passing_25 (by decide) ?_
      cases hT
      exact W.zret (v := (1 : Int32)) hx hb hr rfl (fun t ht hW => mx_end Z t ht _) Z.2.2.2 dL_passing_29
    · replace hT := mx_f hT h_3
      refine lv_aload_n hx hb dL_passing_13 rfl (lv_at hl 2 rfl) ?_
      refine lv_iconst (v := (3 : Int32)) hx hb dL_passing_14 (by decide) ?_
      refine lv_iload_n hx hb dL_passing_15 rfl (lv_at hl 0 rfl) ?_
      refine lv_imul hx hb dL_passing_16 ?_
      refine lv_iconst (v := (1 : Int32)) hx hb dL_passing_17 (by decide) ?_
      refine lv_iadd hx hb dL_passing_18 ?_
      obtain ⟨h_4, hT⟩ := mx_chk hT
      refine mx_iald X Z ha2 h_4 dL_passing_19 ?_
      refine lv_iconst (v := (1 : Int32)) hx hb dL_passing_20 (by decide) ?_
      refine lv_icmp_ne (tgt := 28) hx hb dL_passing_21 (by decide) (fun h_5 => ?_) (fun h_5 => ?_)
      · replace hT := mx_f hT h_5
        refine lv_iconst (v := (0 : Int32)) hx hb dL_passing_28 (by decide) ?_
        cases hT
        exact W.zret (v := (0 : Int32)) hx hb hr rfl (fun t ht hW => mx_end Z t ht _) Z.2.2.2 dL_passing_29
      · replace hT := mx_t hT h_5
        refine lv_iconst (v := (1 : Int32)) hx hb dL_passing_24 (by decide) ?_
        refine lv_goto (tgt := 29) hx hb dL_passing_25 (by decide) ?_
        cases hT
        exact W.zret (v := (1 : Int32)) hx hb hr rfl (fun t ht hW => mx_end Z t ht _) Z.2.2.2 dL_passing_29
/-! PeatRailwayLaw.room -/
def xL_room (x0 : Int32) (a1 : Nat) (n1 : Nat) (a2 : Nat) (n2 : Nat) (G : mM) : Option Int32 :=
  if x0 = 0 then
    some ((4 : Int32))
  else
    mCk (mIn ((0 : Int32)) n1) <|
    if x0 = ((G a1 (((0 : Int32)).toNatClampNeg)) - ((1 : Int32))) then
      some ((4 : Int32))
    else
      (xL_passing x0 a1 n1 a2 n2 G).bind fun q_4 =>
      if q_4 = 0 then
        some ((1 : Int32))
      else
        some ((2 : Int32))
theorem hdL_room : yL_room.cls ≠ "java/lang/invoke/MethodHandle" ∧ yL_room.cls ≠ "java/lang/invoke/VarHandle" ∧ (parseMethodDescriptor yL_room.desc).map (fun d => d.parameters.length) = some 3 := by decide +kernel
set_option maxHeartbeats 4000000 in
set_option maxRecDepth 100000 in
theorem mL_room (l : Launch) (E : mE) (hJ : mJ E) {a1 : Nat} {n1 : Nat} {a2 : Nat} {n2 : Nat} (ha1 : mAi E a1 1 n1) (ha2 : mAi E a2 1 n2) (x0 : Int32) (G : mM) (q : Int32) (hT : xL_room x0 a1 n1 a2 n2 G = some q) : mMet l E yL_room cL_room 3 (some .int) 1 22 [.int (x0), .ref (mad E (a1)), .ref (mad E (a2))] G (some (.int q)) G := by
  refine Met.ofW (cc := cL_room) (maxL := 3) (ret := (some .int)) (by decide) rfl ?_
  intro p e s m args below meth cd s₁ B hml hv
  obtain ⟨rfl, hP, hK, hS⟩ := hv
  have X := mx_entry (own := RL) B hml hK hJ hS rfl
  have hx := X.1
  have hb := X.2.1
  have hown := X.2.2.2.1
  have hts := X.2.2.2.2.1
  have hr := B.returns
  have hlocks := B.notSynchronized
  have hR : 1 ≤ (headSpec (mWs yL_room cL_room 3 (some .int)) ({ frames := 1, cells := 0, slots := 0, locals := 22 })).room.frames ∧ 22 ≤ (headSpec (mWs yL_room cL_room 3 (some .int)) ({ frames := 1, cells := 0, slots := 0, locals := 22 })).room.locals := ⟨Nat.le_refl _, Nat.le_refl _⟩
  have Z : mZ E s.heap s.heap [] G := ⟨hP, va_S.rf⟩
  have hl := lv_entry ([.int (x0), .ref (mad E (a1)), .ref (mad E (a2))]) (n := 3) (Nat.le_of_ble_eq_true rfl)
  rw [lg_entry_eq]
  generalize (lg_sl ([.int (x0), .ref (mad E (a1)), .ref (mad E (a2))]) ++ List.replicate (3 - (lg_sl ([.int (x0), .ref (mad E (a1)), .ref (mad E (a2))])).length) Slot.unset).toArray = ls at hl ⊢
  have hl : lv_has ls 3 [(0, .int (x0)), (1, .ref (mad E (a1))), (2, .ref (mad E (a2)))] := hl
  unfold xL_room at hT
  refine lv_iload_n hx hb dL_room_0 rfl (lv_at hl 0 rfl) ?_
  refine lv_if_eq (tgt := 13) hx hb dL_room_1 (by decide) (fun h_1 => ?_) (fun h_1 => ?_)
  · replace hT := mx_t hT h_1
    refine lv_iconst (v := (4 : Int32)) hx hb dL_room_13 (by decide) ?_
    refine lv_goto (tgt := 31) hx hb dL_room_14 (by decide) ?_
    cases hT
    exact W.iret hx hb hr (fun t ht hW => mx_end Z t ht _) Z.2.2.2 dL_room_31
  · replace hT := mx_f hT h_1
    refine lv_iload_n hx hb dL_room_4 rfl (lv_at hl 0 rfl) ?_
    refine lv_aload_n hx hb dL_room_5 rfl (lv_at hl 1 rfl) ?_
    refine lv_iconst (v := (0 : Int32)) hx hb dL_room_6 (by decide) ?_
    obtain ⟨h_2, hT⟩ := mx_chk hT
    refine mx_iald X Z ha1 h_2 dL_room_7 ?_
    refine mx_tops (s2 := [.int (G a1 (((0 : Int32)).toNatClampNeg)), .int (x0)]) rfl ?_
    refine lv_iconst (v := (1 : Int32)) hx hb dL_room_8 (by decide) ?_
    refine lv_isub hx hb dL_room_9 ?_
    refine lv_icmp_ne (tgt := 17) hx hb dL_room_10 (by decide) (fun h_3 => ?_) (fun h_3 => ?_)
    · replace hT := mx_f hT h_3
      refine lv_iload_n hx hb dL_room_17 rfl (lv_at hl 0 rfl) ?_
      refine lv_aload_n hx hb dL_room_18 rfl (lv_at hl 1 rfl) ?_
      refine lv_aload_n hx hb dL_room_19 rfl (lv_at hl 2 rfl) ?_
      obtain ⟨q_4, h_q_4, hT⟩ := mx_bind hT
      refine mx_callS (As := [.int (x0), .ref (mad E (a1)), .ref (mad E (a2))]) (rest := []) (st1 := [.int (q_4)]) X Z hl.1 (mL_passing l E hJ ha1 ha2 _ _ _ h_q_4) wd_11_16 wd_11_17 wd_10_7 wd_11_18 hdL_passing ⟨Nat.le_trans (by decide) hR.1, Nat.le_trans (by decide) hR.2⟩ ⟨Nat.zero_le _, Nat.zero_le _⟩ (Nat.le_of_ble_eq_true rfl) rfl rfl dL_room_20 (fun H locs Z => ?_)
      refine lv_if_eq (tgt := 30) hx hb dL_room_23 (by decide) (fun h_5 => ?_) (fun h_5 => ?_)
      · replace hT := mx_t hT h_5
        refine lv_iconst (v := (1 : Int32)) hx hb dL_room_30 (by decide) ?_
        cases hT
        exact W.iret hx hb hr (fun t ht hW => mx_end Z t ht _) Z.2.2.2 dL_room_31
      · replace hT := mx_f hT h_5
        refine lv_iconst (v := (2 : Int32)) hx hb dL_room_26 (by decide) ?_
        refine lv_goto (tgt := 31) hx hb dL_room_27 (by decide) ?_
        cases hT
        exact W.iret hx hb hr (fun t ht hW => mx_end Z t ht _) Z.2.2.2 dL_room_31
    · replace hT := mx_t hT h_3
      refine lv_iconst (v := (4 : Int32)) hx hb dL_room_13 (by decide) ?_
      refine lv_goto (tgt := 31) hx hb dL_room_14 (by decide) ?_
      cases hT
      exact W.iret hx hb hr (fun t ht hW => mx_end Z t ht _) Z.2.2.2 dL_room_31
/-! PeatRailwayLaw.weight -/
def xL_weight (x0 : Int32) (a1 : Nat) (n1 : Nat) (G : mM) : Option Int32 :=
  mCk (mIn (((10 : Int32)) * x0) n1) <|
  mCk (mIn ((((10 : Int32)) * x0) + ((2 : Int32))) n1) <|
  some ((((4 : Int32)) + (((2 : Int32)) * (G a1 ((((10 : Int32)) * x0).toNatClampNeg)))) + (G a1 (((((10 : Int32)) * x0) + ((2 : Int32))).toNatClampNeg)))
theorem hdL_weight : yL_weight.cls ≠ "java/lang/invoke/MethodHandle" ∧ yL_weight.cls ≠ "java/lang/invoke/VarHandle" ∧ (parseMethodDescriptor yL_weight.desc).map (fun d => d.parameters.length) = some 2 := by decide +kernel
set_option maxHeartbeats 4000000 in
set_option maxRecDepth 100000 in
theorem mL_weight (l : Launch) (E : mE) (hJ : mJ E) {a1 : Nat} {n1 : Nat} (ha1 : mAi E a1 1 n1) (x0 : Int32) (G : mM) (q : Int32) (hT : xL_weight x0 a1 n1 G = some q) : mMet l E yL_weight cL_weight 2 (some .int) 0 0 [.int (x0), .ref (mad E (a1))] G (some (.int q)) G := by
  refine Met.ofW (cc := cL_weight) (maxL := 2) (ret := (some .int)) (by decide) rfl ?_
  intro p e s m args below meth cd s₁ B hml hv
  obtain ⟨rfl, hP, hK, hS⟩ := hv
  have X := mx_entry (own := RL) B hml hK hJ hS rfl
  have hx := X.1
  have hb := X.2.1
  have hown := X.2.2.2.1
  have hts := X.2.2.2.2.1
  have hr := B.returns
  have hlocks := B.notSynchronized
  have hR : 0 ≤ (headSpec (mWs yL_weight cL_weight 2 (some .int)) ({ frames := 0, cells := 0, slots := 0, locals := 0 })).room.frames ∧ 0 ≤ (headSpec (mWs yL_weight cL_weight 2 (some .int)) ({ frames := 0, cells := 0, slots := 0, locals := 0 })).room.locals := ⟨Nat.le_refl _, Nat.le_refl _⟩
  have Z : mZ E s.heap s.heap [] G := ⟨hP, va_S.rf⟩
  have hl := lv_entry ([.int (x0), .ref (mad E (a1))]) (n := 2) (Nat.le_of_ble_eq_true rfl)
  rw [lg_entry_eq]
  generalize (lg_sl ([.int (x0), .ref (mad E (a1))]) ++ List.replicate (2 - (lg_sl ([.int (x0), .ref (mad E (a1))])).length) Slot.unset).toArray = ls at hl ⊢
  have hl : lv_has ls 2 [(0, .int (x0)), (1, .ref (mad E (a1)))] := hl
  unfold xL_weight at hT
  refine lv_iconst (v := (4 : Int32)) hx hb dL_weight_0 (by decide) ?_
  refine lv_iconst (v := (2 : Int32)) hx hb dL_weight_1 (by decide) ?_
  refine lv_aload_n hx hb dL_weight_2 rfl (lv_at hl 1 rfl) ?_
  refine lv_bipush (v := (10 : Int32)) hx hb dL_weight_3 (by decide) ?_
  refine lv_iload_n hx hb dL_weight_5 rfl (lv_at hl 0 rfl) ?_
  refine lv_imul hx hb dL_weight_6 ?_
  obtain ⟨h_1, hT⟩ := mx_chk hT
  refine mx_iald X Z ha1 h_1 dL_weight_7 ?_
  refine lv_imul hx hb dL_weight_8 ?_
  refine lv_iadd hx hb dL_weight_9 ?_
  refine lv_aload_n hx hb dL_weight_10 rfl (lv_at hl 1 rfl) ?_
  refine lv_bipush (v := (10 : Int32)) hx hb dL_weight_11 (by decide) ?_
  refine lv_iload_n hx hb dL_weight_13 rfl (lv_at hl 0 rfl) ?_
  refine lv_imul hx hb dL_weight_14 ?_
  refine lv_iconst (v := (2 : Int32)) hx hb dL_weight_15 (by decide) ?_
  refine lv_iadd hx hb dL_weight_16 ?_
  obtain ⟨h_2, hT⟩ := mx_chk hT
  refine mx_iald X Z ha1 h_2 dL_weight_17 ?_
  refine lv_iadd hx hb dL_weight_18 ?_
  cases hT
  exact W.iret hx hb hr (fun t ht hW => mx_end Z t ht _) Z.2.2.2 dL_weight_19
/-! PeatRailwayLaw.there -/
def xL_there_L5 (y0 : Int32) (y1 : Nat) (n1 : Nat) (y2 : Nat) (n2 : Nat) : Nat → Int32 → Int32 → mM → Option (Int32)
  | 0, _, _, _ => none
  | n + 1, w3, w4, G =>
    mCk (mIn ((1 : Int32)) n1) <|
    if (G y1 (((1 : Int32)).toNatClampNeg)) ≤ w4 then
      some (w3)
    else
      mCk (mIn ((((10 : Int32)) * w4) + ((3 : Int32))) n2) <|
      if (G y2 (((((10 : Int32)) * w4) + ((3 : Int32))).toNatClampNeg)) = y0 then
        mCk (mIn ((((10 : Int32)) * w4) + ((4 : Int32))) n2) <|
        if (G y2 (((((10 : Int32)) * w4) + ((4 : Int32))).toNatClampNeg)) = ((1 : Int32)) then
          (xL_weight w4 y2 n2 G).bind fun q_11 =>
          mNm (w3 + (((1 : Int32)) + (((10000 : Int32)) * q_11))) fun v_12 =>
          mNm (w4 + (1 : Int32)) fun v_13 =>
          xL_there_L5 y0 y1 n1 y2 n2 n v_12 v_13 G
        else
          (xL_weight w4 y2 n2 G).bind fun q_8 =>
          mNm (w3 + (((100 : Int32)) + (((10000 : Int32)) * q_8))) fun v_9 =>
          mNm (w4 + (1 : Int32)) fun v_10 =>
          xL_there_L5 y0 y1 n1 y2 n2 n v_9 v_10 G
      else
        mNm (w4 + (1 : Int32)) fun v_5 =>
        xL_there_L5 y0 y1 n1 y2 n2 n w3 v_5 G
def xL_there (x0 : Int32) (a1 : Nat) (n1 : Nat) (a2 : Nat) (n2 : Nat) (G : mM) : Option Int32 :=
  (xL_there_L5 x0 a1 n1 a2 n2 mFu ((0 : Int32)) ((0 : Int32)) G).bind fun q_14 =>
  some (q_14)
theorem hdL_there : yL_there.cls ≠ "java/lang/invoke/MethodHandle" ∧ yL_there.cls ≠ "java/lang/invoke/VarHandle" ∧ (parseMethodDescriptor yL_there.desc).map (fun d => d.parameters.length) = some 3 := by decide +kernel
set_option maxHeartbeats 4000000 in
set_option maxRecDepth 100000 in
theorem kL_there_5 {p : Program} {l : Launch} {e : Env} {R : Room} {s : State} {m : MethodId} {args : Array Value} {below : List Frame} {meth : Method} {cd : Code} {Q : State → Prop} {E : mE} (X : mX p s m args cd cL_there 5 RL E) (hR : 1 ≤ R.frames ∧ 21 ≤ R.locals) (hJ : mJ E) {y1 : Nat} {n1 : Nat} {y2 : Nat} {n2 : Nat} (hy1 : mAi E y1 1 n1) (hy2 : mAi E y2 1 n2) (y0 : Int32) : ∀ (n : Nat) (w3 : Int32) (w4 : Int32) (G : mM) (H : Heap) (locs : List Loc) (ls : Array Slot) (r : Int32), xL_there_L5 y0 y1 n1 y2 n2 n w3 w4 G = some r → mZ E s.heap H locs G → lv_has ls 5 [(0, .int (y0)), (1, .ref (mad E (y1))), (2, .ref (mad E (y2))), (3, .int (w3)), (4, .int (w4))] → (∀ (H : Heap) (locs : List Loc) (ls : Array Slot), mZ E s.heap H locs G → lv_has ls 5 [(0, .int (y0)), (1, .ref (mad E (y1))), (2, .ref (mad E (y2))), (3, .int (r))] → W p l e R s m args below meth cd H locs 0 0 Q (F0 m 65 ls [])) → W p l e R s m args below meth cd H locs 0 0 Q (F0 m 5 ls []) := by
  have hx := X.1
  have hb := X.2.1
  have hown := X.2.2.2.1
  have hts := X.2.2.2.2.1
  intro n
  induction n with
  | zero =>
    intro w3 w4 G H locs ls r hT
    rw [xL_there_L5] at hT
    cases hT
  | succ n ih =>
    intro w3 w4 G H locs ls r hT Z hl k0
    rw [xL_there_L5] at hT
    refine lv_iload hx hb dL_there_5 (lv_at hl 4 rfl) ?_
    refine lv_aload_n hx hb dL_there_7 rfl (lv_at hl 1 rfl) ?_
    refine lv_iconst (v := (1 : Int32)) hx hb dL_there_8 (by decide) ?_
    obtain ⟨h_1, hT⟩ := mx_chk hT
    refine mx_iald X Z hy1 h_1 dL_there_9 ?_
    refine mx_tops (s2 := [.int (G y1 (((1 : Int32)).toNatClampNeg)), .int (w4)]) rfl ?_
    refine lv_icmp_ge (tgt := 65) hx hb dL_there_10 (by decide) (fun h_2 => ?_) (fun h_2 => ?_)
    · replace hT := mx_t hT h_2
      cases hT
      exact k0 _ _ _ Z (lv_sub hl [0, 1, 2, 3] rfl)
    · replace hT := mx_f hT h_2
      refine lv_aload_n hx hb dL_there_13 rfl (lv_at hl 2 rfl) ?_
      refine lv_bipush (v := (10 : Int32)) hx hb dL_there_14 (by decide) ?_
      refine lv_iload hx hb dL_there_16 (lv_at hl 4 rfl) ?_
      refine lv_imul hx hb dL_there_18 ?_
      refine lv_iconst (v := (3 : Int32)) hx hb dL_there_19 (by decide) ?_
      refine lv_iadd hx hb dL_there_20 ?_
      obtain ⟨h_3, hT⟩ := mx_chk hT
      refine mx_iald X Z hy2 h_3 dL_there_21 ?_
      refine lv_iload_n hx hb dL_there_22 rfl (lv_at hl 0 rfl) ?_
      refine lv_icmp_ne (tgt := 59) hx hb dL_there_23 (by decide) (fun h_4 => ?_) (fun h_4 => ?_)
      · replace hT := mx_f hT h_4
        obtain ⟨v_5, e_v_5, hT⟩ := mx_nm hT
        refine lv_iinc (v := v_5) (lv' := [(4, .int (v_5)), (0, .int (y0)), (1, .ref (mad E (y1))), (2, .ref (mad E (y2))), (3, .int (w3))]) hx hb dL_there_59 hl (k := 4) rfl (by rw [← e_v_5]; rfl) (by decide) rfl (fun ls hl => ?_)
        refine lv_goto (tgt := 5) hx hb dL_there_62 (by decide) ?_
        exact ih _ _ _ _ _ _ _ hT Z (lv_sub hl [1, 2, 3, 4, 0] rfl) k0
      · replace hT := mx_t hT h_4
        refine lv_iload_n hx hb dL_there_26 rfl (lv_at hl 3 rfl) ?_
        refine lv_aload_n hx hb dL_there_27 rfl (lv_at hl 2 rfl) ?_
        refine lv_bipush (v := (10 : Int32)) hx hb dL_there_28 (by decide) ?_
        refine lv_iload hx hb dL_there_30 (lv_at hl 4 rfl) ?_
        refine lv_imul hx hb dL_there_32 ?_
        refine lv_iconst (v := (4 : Int32)) hx hb dL_there_33 (by decide) ?_
        refine lv_iadd hx hb dL_there_34 ?_
        obtain ⟨h_6, hT⟩ := mx_chk hT
        refine mx_iald X Z hy2 h_6 dL_there_35 ?_
        refine lv_iconst (v := (1 : Int32)) hx hb dL_there_36 (by decide) ?_
        refine lv_icmp_ne (tgt := 44) hx hb dL_there_37 (by decide) (fun h_7 => ?_) (fun h_7 => ?_)
        · replace hT := mx_f hT h_7
          refine lv_bipush (v := (100 : Int32)) hx hb dL_there_44 (by decide) ?_
          refine lv_sipush (v := (10000 : Int32)) hx hb dL_there_46 (by decide) ?_
          refine lv_iload hx hb dL_there_49 (lv_at hl 4 rfl) ?_
          refine lv_aload_n hx hb dL_there_51 rfl (lv_at hl 2 rfl) ?_
          obtain ⟨q_8, h_q_8, hT⟩ := mx_bind hT
          refine mx_callS (As := [.int (w4), .ref (mad E (y2))]) (rest := [.int ((10000 : Int32)), .int ((100 : Int32)), .int (w3)]) (st1 := [.int (q_8), .int ((10000 : Int32)), .int ((100 : Int32)), .int (w3)]) X Z hl.1 (mL_weight l E hJ hy2 _ _ _ h_q_8) wd_12_1 wd_12_2 wd_10_7 wd_12_3 hdL_weight ⟨Nat.le_trans (by decide) hR.1, Nat.le_trans (by decide) hR.2⟩ ⟨Nat.zero_le _, Nat.zero_le _⟩ (Nat.le_of_ble_eq_true rfl) rfl rfl dL_there_52 (fun H locs Z => ?_)
          refine lv_imul hx hb dL_there_55 ?_
          refine lv_iadd hx hb dL_there_56 ?_
          refine lv_iadd hx hb dL_there_57 ?_
          obtain ⟨v_9, e_v_9, hT⟩ := mx_nm hT
          refine mx_tops (congrArg (fun z => (.int (z) :: [] : List Value)) e_v_9) ?_
          refine lv_istore_n (lv' := [(3, .int (v_9)), (0, .int (y0)), (1, .ref (mad E (y1))), (2, .ref (mad E (y2))), (4, .int (w4))]) hx hb dL_there_58 rfl hl (by decide) rfl (fun ls hl => ?_)
          obtain ⟨v_10, e_v_10, hT⟩ := mx_nm hT
          refine lv_iinc (v := v_10) (lv' := [(4, .int (v_10)), (3, .int (v_9)), (0, .int (y0)), (1, .ref (mad E (y1))), (2, .ref (mad E (y2)))]) hx hb dL_there_59 hl (k := 4) rfl (by rw [← e_v_10]; rfl) (by decide) rfl (fun ls hl => ?_)
          refine lv_goto (tgt := 5) hx hb dL_there_62 (by decide) ?_
          exact ih _ _ _ _ _ _ _ hT Z (lv_sub hl [2, 3, 4, 1, 0] rfl) k0
        · replace hT := mx_t hT h_7
          refine lv_iconst (v := (1 : Int32)) hx hb dL_there_40 (by decide) ?_
          refine lv_goto (tgt := 46) hx hb dL_there_41 (by decide) ?_
          refine lv_sipush (v := (10000 : Int32)) hx hb dL_there_46 (by decide) ?_
          refine lv_iload hx hb dL_there_49 (lv_at hl 4 rfl) ?_
          refine lv_aload_n hx hb dL_there_51 rfl (lv_at hl 2 rfl) ?_
          obtain ⟨q_11, h_q_11, hT⟩ := mx_bind hT
          refine mx_callS (As := [.int (w4), .ref (mad E (y2))]) (rest := [.int ((10000 : Int32)), .int ((1 : Int32)), .int (w3)]) (st1 := [.int (q_11), .int ((10000 : Int32)), .int ((1 : Int32)), .int (w3)]) X Z hl.1 (mL_weight l E hJ hy2 _ _ _ h_q_11) wd_12_1 wd_12_2 wd_10_7 wd_12_3 hdL_weight ⟨Nat.le_trans (by decide) hR.1, Nat.le_trans (by decide) hR.2⟩ ⟨Nat.zero_le _, Nat.zero_le _⟩ (Nat.le_of_ble_eq_true rfl) rfl rfl dL_there_52 (fun H locs Z => ?_)
          refine lv_imul hx hb dL_there_55 ?_
          refine lv_iadd hx hb dL_there_56 ?_
          refine lv_iadd hx hb dL_there_57 ?_
          obtain ⟨v_12, e_v_12, hT⟩ := mx_nm hT
          refine mx_tops (congrArg (fun z => (.int (z) :: [] : List Value)) e_v_12) ?_
          refine lv_istore_n (lv' := [(3, .int (v_12)), (0, .int (y0)), (1, .ref (mad E (y1))), (2, .ref (mad E (y2))), (4, .int (w4))]) hx hb dL_there_58 rfl hl (by decide) rfl (fun ls hl => ?_)
          obtain ⟨v_13, e_v_13, hT⟩ := mx_nm hT
          refine lv_iinc (v := v_13) (lv' := [(4, .int (v_13)), (3, .int (v_12)), (0, .int (y0)), (1, .ref (mad E (y1))), (2, .ref (mad E (y2)))]) hx hb dL_there_59 hl (k := 4) rfl (by rw [← e_v_13]; rfl) (by decide) rfl (fun ls hl => ?_)
          refine lv_goto (tgt := 5) hx hb dL_there_62 (by decide) ?_
          exact ih _ _ _ _ _ _ _ hT Z (lv_sub hl [2, 3, 4, 1, 0] rfl) k0
set_option maxHeartbeats 4000000 in
set_option maxRecDepth 100000 in
theorem mL_there (l : Launch) (E : mE) (hJ : mJ E) {a1 : Nat} {n1 : Nat} {a2 : Nat} {n2 : Nat} (ha1 : mAi E a1 1 n1) (ha2 : mAi E a2 1 n2) (x0 : Int32) (G : mM) (q : Int32) (hT : xL_there x0 a1 n1 a2 n2 G = some q) : mMet l E yL_there cL_there 5 (some .int) 1 21 [.int (x0), .ref (mad E (a1)), .ref (mad E (a2))] G (some (.int q)) G := by
  refine Met.ofW (cc := cL_there) (maxL := 5) (ret := (some .int)) (by decide) rfl ?_
  intro p e s m args below meth cd s₁ B hml hv
  obtain ⟨rfl, hP, hK, hS⟩ := hv
  have X := mx_entry (own := RL) B hml hK hJ hS rfl
  have hx := X.1
  have hb := X.2.1
  have hown := X.2.2.2.1
  have hts := X.2.2.2.2.1
  have hr := B.returns
  have hlocks := B.notSynchronized
  have hR : 1 ≤ (headSpec (mWs yL_there cL_there 5 (some .int)) ({ frames := 1, cells := 0, slots := 0, locals := 21 })).room.frames ∧ 21 ≤ (headSpec (mWs yL_there cL_there 5 (some .int)) ({ frames := 1, cells := 0, slots := 0, locals := 21 })).room.locals := ⟨Nat.le_refl _, Nat.le_refl _⟩
  have Z : mZ E s.heap s.heap [] G := ⟨hP, va_S.rf⟩
  have hl := lv_entry ([.int (x0), .ref (mad E (a1)), .ref (mad E (a2))]) (n := 5) (Nat.le_of_ble_eq_true rfl)
  rw [lg_entry_eq]
  generalize (lg_sl ([.int (x0), .ref (mad E (a1)), .ref (mad E (a2))]) ++ List.replicate (5 - (lg_sl ([.int (x0), .ref (mad E (a1)), .ref (mad E (a2))])).length) Slot.unset).toArray = ls at hl ⊢
  have hl : lv_has ls 5 [(0, .int (x0)), (1, .ref (mad E (a1))), (2, .ref (mad E (a2)))] := hl
  unfold xL_there at hT
  refine lv_iconst (v := (0 : Int32)) hx hb dL_there_0 (by decide) ?_
  refine lv_istore_n (lv' := [(3, .int ((0 : Int32))), (0, .int (x0)), (1, .ref (mad E (a1))), (2, .ref (mad E (a2)))]) hx hb dL_there_1 rfl hl (by decide) rfl (fun ls hl => ?_)
  refine lv_iconst (v := (0 : Int32)) hx hb dL_there_2 (by decide) ?_
  refine lv_istore (lv' := [(4, .int ((0 : Int32))), (3, .int ((0 : Int32))), (0, .int (x0)), (1, .ref (mad E (a1))), (2, .ref (mad E (a2)))]) hx hb dL_there_3 hl (by decide) rfl (fun ls hl => ?_)
  obtain ⟨q_14, h_q_14, hT⟩ := mx_bind hT
  refine kL_there_5 X hR hJ ha1 ha2 _ _ _ _ _ _ _ _ _ h_q_14 Z (lv_sub (l' := [(0, .int (x0)), (1, .ref (mad E (a1))), (2, .ref (mad E (a2))), (3, .int ((0 : Int32))), (4, .int ((0 : Int32)))]) hl [2, 3, 4, 1, 0] rfl) (fun H locs ls Z hl => ?_)
  · refine lv_iload_n hx hb dL_there_65 rfl (lv_at hl 3 rfl) ?_
    cases hT
    exact W.iret hx hb hr (fun t ht hW => mx_end Z t ht _) Z.2.2.2 dL_there_66
/-! PeatRailwayLaw.many -/
def xL_many (x0 : Int32) (a1 : Nat) (n1 : Nat) (a2 : Nat) (n2 : Nat) (G : mM) : Option Int32 :=
  (xL_there x0 a1 n1 a2 n2 G).bind fun q_1 =>
  (xL_there x0 a1 n1 a2 n2 G).bind fun q_2 =>
  some ((q_1 - q_1 / ((100 : Int32)) * ((100 : Int32))) + ((q_2 / ((100 : Int32))) - (q_2 / ((100 : Int32))) / ((100 : Int32)) * ((100 : Int32))))
theorem hdL_many : yL_many.cls ≠ "java/lang/invoke/MethodHandle" ∧ yL_many.cls ≠ "java/lang/invoke/VarHandle" ∧ (parseMethodDescriptor yL_many.desc).map (fun d => d.parameters.length) = some 3 := by decide +kernel
set_option maxHeartbeats 4000000 in
set_option maxRecDepth 100000 in
theorem mL_many (l : Launch) (E : mE) (hJ : mJ E) {a1 : Nat} {n1 : Nat} {a2 : Nat} {n2 : Nat} (ha1 : mAi E a1 1 n1) (ha2 : mAi E a2 1 n2) (x0 : Int32) (G : mM) (q : Int32) (hT : xL_many x0 a1 n1 a2 n2 G = some q) : mMet l E yL_many cL_many 3 (some .int) 2 45 [.int (x0), .ref (mad E (a1)), .ref (mad E (a2))] G (some (.int q)) G := by
  refine Met.ofW (cc := cL_many) (maxL := 3) (ret := (some .int)) (by decide) rfl ?_
  intro p e s m args below meth cd s₁ B hml hv
  obtain ⟨rfl, hP, hK, hS⟩ := hv
  have X := mx_entry (own := RL) B hml hK hJ hS rfl
  have hx := X.1
  have hb := X.2.1
  have hown := X.2.2.2.1
  have hts := X.2.2.2.2.1
  have hr := B.returns
  have hlocks := B.notSynchronized
  have hR : 2 ≤ (headSpec (mWs yL_many cL_many 3 (some .int)) ({ frames := 2, cells := 0, slots := 0, locals := 45 })).room.frames ∧ 45 ≤ (headSpec (mWs yL_many cL_many 3 (some .int)) ({ frames := 2, cells := 0, slots := 0, locals := 45 })).room.locals := ⟨Nat.le_refl _, Nat.le_refl _⟩
  have Z : mZ E s.heap s.heap [] G := ⟨hP, va_S.rf⟩
  have hl := lv_entry ([.int (x0), .ref (mad E (a1)), .ref (mad E (a2))]) (n := 3) (Nat.le_of_ble_eq_true rfl)
  rw [lg_entry_eq]
  generalize (lg_sl ([.int (x0), .ref (mad E (a1)), .ref (mad E (a2))]) ++ List.replicate (3 - (lg_sl ([.int (x0), .ref (mad E (a1)), .ref (mad E (a2))])).length) Slot.unset).toArray = ls at hl ⊢
  have hl : lv_has ls 3 [(0, .int (x0)), (1, .ref (mad E (a1))), (2, .ref (mad E (a2)))] := hl
  unfold xL_many at hT
  refine lv_iload_n hx hb dL_many_0 rfl (lv_at hl 0 rfl) ?_
  refine lv_aload_n hx hb dL_many_1 rfl (lv_at hl 1 rfl) ?_
  refine lv_aload_n hx hb dL_many_2 rfl (lv_at hl 2 rfl) ?_
  obtain ⟨q_1, h_q_1, hT⟩ := mx_bind hT
  refine mx_callS (As := [.int (x0), .ref (mad E (a1)), .ref (mad E (a2))]) (rest := []) (st1 := [.int (q_1)]) X Z hl.1 (mL_there l E hJ ha1 ha2 _ _ _ h_q_1) wd_11_22 wd_11_23 wd_10_7 wd_12_0 hdL_there ⟨Nat.le_trans (by decide) hR.1, Nat.le_trans (by decide) hR.2⟩ ⟨Nat.zero_le _, Nat.zero_le _⟩ (Nat.le_of_ble_eq_true rfl) rfl rfl dL_many_3 (fun H locs Z => ?_)
  refine lv_bipush (v := (100 : Int32)) hx hb dL_many_6 (by decide) ?_
  refine lv_irem hx hb dL_many_8 (by decide) ?_
  refine lv_iload_n hx hb dL_many_9 rfl (lv_at hl 0 rfl) ?_
  refine lv_aload_n hx hb dL_many_10 rfl (lv_at hl 1 rfl) ?_
  refine lv_aload_n hx hb dL_many_11 rfl (lv_at hl 2 rfl) ?_
  obtain ⟨q_2, h_q_2, hT⟩ := mx_bind hT
  refine mx_callS (As := [.int (x0), .ref (mad E (a1)), .ref (mad E (a2))]) (rest := [.int (q_1 - q_1 / ((100 : Int32)) * ((100 : Int32)))]) (st1 := [.int (q_2), .int (q_1 - q_1 / ((100 : Int32)) * ((100 : Int32)))]) X Z hl.1 (mL_there l E hJ ha1 ha2 _ _ _ h_q_2) wd_11_22 wd_11_23 wd_10_7 wd_12_0 hdL_there ⟨Nat.le_trans (by decide) hR.1, Nat.le_trans (by decide) hR.2⟩ ⟨Nat.zero_le _, Nat.zero_le _⟩ (Nat.le_of_ble_eq_true rfl) rfl rfl dL_many_12 (fun H locs Z => ?_)
  refine lv_bipush (v := (100 : Int32)) hx hb dL_many_15 (by decide) ?_
  refine lv_idiv hx hb dL_many_17 (by decide) ?_
  refine lv_bipush (v := (100 : Int32)) hx hb dL_many_18 (by decide) ?_
  refine lv_irem hx hb dL_many_20 (by decide) ?_
  refine lv_iadd hx hb dL_many_21 ?_
  cases hT
  exact W.iret hx hb hr (fun t ht hW => mx_end Z t ht _) Z.2.2.2 dL_many_22
/-! PeatRailwayLaw.why -/
def xL_why_L165 (y1 : Nat) (n1 : Nat) (y2 : Nat) (n2 : Nat) (y3 : Nat) (n3 : Nat) (y5 : Int32) (y7 : Int32) : Nat → Int32 → Int32 → mM → Option (Nat × Int32 × Int32)
  | 0, _, _, _ => none
  | n + 1, w9, w10, G =>
    (xL_passing w10 y1 n1 y2 n2 G).bind fun q_21 =>
    if q_21 = 0 then
      (xL_there w10 y1 n1 y3 n3 G).bind fun q_23 =>
      mNm (q_23 - q_23 / ((100 : Int32)) * ((100 : Int32))) fun v_24 =>
      (xL_there w10 y1 n1 y3 n3 G).bind fun q_25 =>
      mNm ((q_25 / ((100 : Int32))) - (q_25 / ((100 : Int32))) / ((100 : Int32)) * ((100 : Int32))) fun v_26 =>
      if y5 = 0 then
        if v_24 ≤ 0 then
          if y5 = 0 then
            mNm (w9 + v_26) fun v_30 =>
            mNm (w10 + y7) fun v_31 =>
            xL_why_L165 y1 n1 y2 n2 y3 n3 y5 y7 n v_30 v_31 G
          else
            mNm (w9 + v_24) fun v_32 =>
            mNm (w10 + y7) fun v_33 =>
            xL_why_L165 y1 n1 y2 n2 y3 n3 y5 y7 n v_32 v_33 G
        else
          some (1, 0, 0)
      else
        if v_26 ≤ 0 then
          if y5 = 0 then
            mNm (w9 + v_26) fun v_36 =>
            mNm (w10 + y7) fun v_37 =>
            xL_why_L165 y1 n1 y2 n2 y3 n3 y5 y7 n v_36 v_37 G
          else
            mNm (w9 + v_24) fun v_38 =>
            mNm (w10 + y7) fun v_39 =>
            xL_why_L165 y1 n1 y2 n2 y3 n3 y5 y7 n v_38 v_39 G
        else
          some (1, 0, 0)
    else
      some (0, w9, w10)
def xL_why (x0 : Int32) (a1 : Nat) (n1 : Nat) (a2 : Nat) (n2 : Nat) (a3 : Nat) (n3 : Nat) (G : mM) : Option Int32 :=
  mNm (((10 : Int32)) * x0) fun v_1 =>
  mCk (mIn (v_1 + ((4 : Int32))) n3) <|
  if (G a3 ((v_1 + ((4 : Int32))).toNatClampNeg)) = ((1 : Int32)) then
    mCk (mIn (v_1 + ((3 : Int32))) n3) <|
    mNm (G a3 ((v_1 + ((3 : Int32))).toNatClampNeg)) fun v_51 =>
    mCk (mIn ((0 : Int32)) n1) <|
    if v_51 = ((G a1 (((0 : Int32)).toNatClampNeg)) - ((1 : Int32))) then
      some ((0 : Int32))
    else
      mNm (v_51 + ((1 : Int32))) fun v_57 =>
      mCk (mIn ((((3 : Int32)) * v_57) + ((2 : Int32))) n2) <|
      mCk (mIn ((2 : Int32)) n1) <|
      if (G a2 (((((3 : Int32)) * v_57) + ((2 : Int32))).toNatClampNeg)) ≤ (G a1 (((2 : Int32)).toNatClampNeg)) then
        (xL_many v_57 a1 n1 a3 n3 G).bind fun q_61 =>
        (xL_room v_57 a1 n1 a2 n2 G).bind fun q_62 =>
        if q_61 < q_62 then
          (xL_passing v_51 a1 n1 a2 n2 G).bind fun q_64 =>
          if q_64 = 0 then
            some ((0 : Int32))
          else
            (xL_passing v_57 a1 n1 a2 n2 G).bind fun q_66 =>
            if q_66 = 0 then
              (xL_why_L165 a1 n1 a2 n2 a3 n3 ((1 : Int32)) ((1 : Int32)) mFu ((0 : Int32)) v_57 G).bind fun q_68 =>
              if q_68.1 = 0 then
                if q_68.2.2 ≤ 0 then
                  some ((0 : Int32))
                else
                  mCk (mIn ((0 : Int32)) n1) <|
                  if ((G a1 (((0 : Int32)).toNatClampNeg)) - ((1 : Int32))) ≤ q_68.2.2 then
                    some ((0 : Int32))
                  else
                    (xL_many q_68.2.2 a1 n1 a3 n3 G).bind fun q_72 =>
                    if (q_72 + q_68.2.1) < ((2 : Int32)) then
                      some ((0 : Int32))
                    else
                      some ((5 : Int32))
              else
                some ((4 : Int32))
            else
              some ((0 : Int32))
        else
          some ((3 : Int32))
      else
        some ((2 : Int32))
  else
    mCk (mIn (v_1 + ((3 : Int32))) n3) <|
    mNm (G a3 ((v_1 + ((3 : Int32))).toNatClampNeg)) fun v_5 =>
    if v_5 = 0 then
      mCk (mIn ((6 : Int32)) n1) <|
      mCk (mIn v_1 n3) <|
      mCk (mIn (v_1 + ((1 : Int32))) n3) <|
      if ((G a3 v_1.toNatClampNeg) * (G a3 ((v_1 + ((1 : Int32))).toNatClampNeg))) ≤ (G a1 (((6 : Int32)).toNatClampNeg)) then
        some ((0 : Int32))
      else
        some ((1 : Int32))
    else
      mNm (v_5 + ((-1 : Int32))) fun v_10 =>
      mCk (mIn ((((3 : Int32)) * v_10) + ((2 : Int32))) n2) <|
      mCk (mIn ((2 : Int32)) n1) <|
      if (G a2 (((((3 : Int32)) * v_10) + ((2 : Int32))).toNatClampNeg)) ≤ (G a1 (((2 : Int32)).toNatClampNeg)) then
        (xL_many v_10 a1 n1 a3 n3 G).bind fun q_14 =>
        (xL_room v_10 a1 n1 a2 n2 G).bind fun q_15 =>
        if q_14 < q_15 then
          (xL_passing v_5 a1 n1 a2 n2 G).bind fun q_17 =>
          if q_17 = 0 then
            some ((0 : Int32))
          else
            (xL_passing v_10 a1 n1 a2 n2 G).bind fun q_19 =>
            if q_19 = 0 then
              (xL_why_L165 a1 n1 a2 n2 a3 n3 ((0 : Int32)) ((-1 : Int32)) mFu ((0 : Int32)) v_10 G).bind fun q_40 =>
              if q_40.1 = 0 then
                if q_40.2.2 ≤ 0 then
                  some ((0 : Int32))
                else
                  mCk (mIn ((0 : Int32)) n1) <|
                  if ((G a1 (((0 : Int32)).toNatClampNeg)) - ((1 : Int32))) ≤ q_40.2.2 then
                    some ((0 : Int32))
                  else
                    (xL_many q_40.2.2 a1 n1 a3 n3 G).bind fun q_44 =>
                    if (q_44 + q_40.2.1) < ((2 : Int32)) then
                      some ((0 : Int32))
                    else
                      some ((5 : Int32))
              else
                some ((4 : Int32))
            else
              some ((0 : Int32))
        else
          some ((3 : Int32))
      else
        some ((2 : Int32))
theorem hdL_why : yL_why.cls ≠ "java/lang/invoke/MethodHandle" ∧ yL_why.cls ≠ "java/lang/invoke/VarHandle" ∧ (parseMethodDescriptor yL_why.desc).map (fun d => d.parameters.length) = some 4 := by decide +kernel
set_option maxHeartbeats 4000000 in
set_option maxRecDepth 100000 in
theorem kL_why_165 {p : Program} {l : Launch} {e : Env} {R : Room} {s : State} {m : MethodId} {args : Array Value} {below : List Frame} {meth : Method} {cd : Code} {Q : State → Prop} {E : mE} (X : mX p s m args cd cL_why 13 RL E) (hR : 3 ≤ R.frames ∧ 67 ≤ R.locals) (hJ : mJ E) {y1 : Nat} {n1 : Nat} {y2 : Nat} {n2 : Nat} {y3 : Nat} {n3 : Nat} (hy1 : mAi E y1 1 n1) (hy2 : mAi E y2 1 n2) (hy3 : mAi E y3 1 n3) (y5 : Int32) (y7 : Int32) : ∀ (n : Nat) (w9 : Int32) (w10 : Int32) (G : mM) (H : Heap) (locs : List Loc) (ls : Array Slot) (r : Nat × Int32 × Int32), xL_why_L165 y1 n1 y2 n2 y3 n3 y5 y7 n w9 w10 G = some r → mZ E s.heap H locs G → lv_has ls 13 [(1, .ref (mad E (y1))), (2, .ref (mad E (y2))), (3, .ref (mad E (y3))), (5, .int (y5)), (7, .int (y7)), (9, .int (w9)), (10, .int (w10))] → (r.1 = 0 → ∀ (H : Heap) (locs : List Loc) (ls : Array Slot), mZ E s.heap H locs G → lv_has ls 13 [(1, .ref (mad E (y1))), (2, .ref (mad E (y2))), (3, .ref (mad E (y3))), (5, .int (y5)), (7, .int (y7)), (9, .int (r.2.1)), (10, .int (r.2.2))] → W p l e R s m args below meth cd H locs 0 0 Q (F0 m 246 ls [])) → (r.1 = 1 → ∀ (H : Heap) (locs : List Loc) (ls : Array Slot), mZ E s.heap H locs G → lv_has ls 13 [(1, .ref (mad E (y1))), (2, .ref (mad E (y2))), (3, .ref (mad E (y3))), (5, .int (y5)), (7, .int (y7))] → W p l e R s m args below meth cd H locs 0 0 Q (F0 m 217 ls [])) → W p l e R s m args below meth cd H locs 0 0 Q (F0 m 165 ls []) := by
  have hx := X.1
  have hb := X.2.1
  have hown := X.2.2.2.1
  have hts := X.2.2.2.2.1
  intro n
  induction n with
  | zero =>
    intro w9 w10 G H locs ls r hT
    rw [xL_why_L165] at hT
    cases hT
  | succ n ih =>
    intro w9 w10 G H locs ls r hT Z hl k0 k1
    rw [xL_why_L165] at hT
    refine lv_iload hx hb dL_why_165 (lv_at hl 6 rfl) ?_
    refine lv_aload_n hx hb dL_why_167 rfl (lv_at hl 0 rfl) ?_
    refine lv_aload_n hx hb dL_why_168 rfl (lv_at hl 1 rfl) ?_
    obtain ⟨q_21, h_q_21, hT⟩ := mx_bind hT
    refine mx_callS (As := [.int (w10), .ref (mad E (y1)), .ref (mad E (y2))]) (rest := []) (st1 := [.int (q_21)]) X Z hl.1 (mL_passing l E hJ hy1 hy2 _ _ _ h_q_21) wd_11_16 wd_11_17 wd_10_7 wd_11_18 hdL_passing ⟨Nat.le_trans (by decide) hR.1, Nat.le_trans (by decide) hR.2⟩ ⟨Nat.zero_le _, Nat.zero_le _⟩ (Nat.le_of_ble_eq_true rfl) rfl rfl dL_why_169 (fun H locs Z => ?_)
    refine lv_if_ne (tgt := 246) hx hb dL_why_172 (by decide) (fun h_22 => ?_) (fun h_22 => ?_)
    · replace hT := mx_f hT h_22
      cases hT
      exact k0 rfl _ _ _ Z (lv_sub hl [0, 1, 2, 3, 4, 5, 6] rfl)
    · replace hT := mx_t hT h_22
      refine lv_iload hx hb dL_why_175 (lv_at hl 6 rfl) ?_
      refine lv_aload_n hx hb dL_why_177 rfl (lv_at hl 0 rfl) ?_
      refine lv_aload_n hx hb dL_why_178 rfl (lv_at hl 2 rfl) ?_
      obtain ⟨q_23, h_q_23, hT⟩ := mx_bind hT
      refine mx_callS (As := [.int (w10), .ref (mad E (y1)), .ref (mad E (y3))]) (rest := []) (st1 := [.int (q_23)]) X Z hl.1 (mL_there l E hJ hy1 hy3 _ _ _ h_q_23) wd_11_22 wd_11_23 wd_10_7 wd_12_0 hdL_there ⟨Nat.le_trans (by decide) hR.1, Nat.le_trans (by decide) hR.2⟩ ⟨Nat.zero_le _, Nat.zero_le _⟩ (Nat.le_of_ble_eq_true rfl) rfl rfl dL_why_179 (fun H locs Z => ?_)
      refine lv_bipush (v := (100 : Int32)) hx hb dL_why_182 (by decide) ?_
      refine lv_irem hx hb dL_why_184 (by decide) ?_
      obtain ⟨v_24, e_v_24, hT⟩ := mx_nm hT
      refine mx_tops (congrArg (fun z => (.int (z) :: [] : List Value)) e_v_24) ?_
      refine lv_istore (lv' := [(11, .int (v_24)), (1, .ref (mad E (y1))), (2, .ref (mad E (y2))), (3, .ref (mad E (y3))), (5, .int (y5)), (7, .int (y7)), (9, .int (w9)), (10, .int (w10))]) hx hb dL_why_185 hl (by decide) rfl (fun ls hl => ?_)
      refine lv_iload hx hb dL_why_187 (lv_at hl 7 rfl) ?_
      refine lv_aload_n hx hb dL_why_189 rfl (lv_at hl 1 rfl) ?_
      refine lv_aload_n hx hb dL_why_190 rfl (lv_at hl 3 rfl) ?_
      obtain ⟨q_25, h_q_25, hT⟩ := mx_bind hT
      refine mx_callS (As := [.int (w10), .ref (mad E (y1)), .ref (mad E (y3))]) (rest := []) (st1 := [.int (q_25)]) X Z hl.1 (mL_there l E hJ hy1 hy3 _ _ _ h_q_25) wd_11_22 wd_11_23 wd_10_7 wd_12_0 hdL_there ⟨Nat.le_trans (by decide) hR.1, Nat.le_trans (by decide) hR.2⟩ ⟨Nat.zero_le _, Nat.zero_le _⟩ (Nat.le_of_ble_eq_true rfl) rfl rfl dL_why_191 (fun H locs Z => ?_)
      refine lv_bipush (v := (100 : Int32)) hx hb dL_why_194 (by decide) ?_
      refine lv_idiv hx hb dL_why_196 (by decide) ?_
      refine lv_bipush (v := (100 : Int32)) hx hb dL_why_197 (by decide) ?_
      refine lv_irem hx hb dL_why_199 (by decide) ?_
      obtain ⟨v_26, e_v_26, hT⟩ := mx_nm hT
      refine mx_tops (congrArg (fun z => (.int (z) :: [] : List Value)) e_v_26) ?_
      refine lv_istore (lv' := [(12, .int (v_26)), (11, .int (v_24)), (1, .ref (mad E (y1))), (2, .ref (mad E (y2))), (3, .ref (mad E (y3))), (5, .int (y5)), (7, .int (y7)), (9, .int (w9)), (10, .int (w10))]) hx hb dL_why_200 hl (by decide) rfl (fun ls hl => ?_)
      refine lv_iload hx hb dL_why_202 (lv_at hl 5 rfl) ?_
      refine lv_if_eq (tgt := 212) hx hb dL_why_204 (by decide) (fun h_27 => ?_) (fun h_27 => ?_)
      · replace hT := mx_t hT h_27
        refine lv_iload hx hb dL_why_212 (lv_at hl 1 rfl) ?_
        refine lv_if_le (tgt := 219) hx hb dL_why_214 (by decide) (fun h_28 => ?_) (fun h_28 => ?_)
        · replace hT := mx_t hT h_28
          refine lv_iload hx hb dL_why_219 (lv_at hl 7 rfl) ?_
          refine lv_iload hx hb dL_why_221 (lv_at hl 5 rfl) ?_
          refine lv_if_eq (tgt := 231) hx hb dL_why_223 (by decide) (fun h_29 => ?_) (fun h_29 => ?_)
          · replace hT := mx_t hT h_29
            refine lv_iload hx hb dL_why_231 (lv_at hl 0 rfl) ?_
            refine lv_iadd hx hb dL_why_233 ?_
            obtain ⟨v_30, e_v_30, hT⟩ := mx_nm hT
            refine mx_tops (congrArg (fun z => (.int (z) :: [] : List Value)) e_v_30) ?_
            refine lv_istore (lv' := [(9, .int (v_30)), (12, .int (v_26)), (11, .int (v_24)), (1, .ref (mad E (y1))), (2, .ref (mad E (y2))), (3, .ref (mad E (y3))), (5, .int (y5)), (7, .int (y7)), (10, .int (w10))]) hx hb dL_why_234 hl (by decide) rfl (fun ls hl => ?_)
            refine lv_iload hx hb dL_why_236 (lv_at hl 8 rfl) ?_
            refine lv_iload hx hb dL_why_238 (lv_at hl 7 rfl) ?_
            refine lv_iadd hx hb dL_why_240 ?_
            obtain ⟨v_31, e_v_31, hT⟩ := mx_nm hT
            refine mx_tops (congrArg (fun z => (.int (z) :: [] : List Value)) e_v_31) ?_
            refine lv_istore (lv' := [(10, .int (v_31)), (9, .int (v_30)), (12, .int (v_26)), (11, .int (v_24)), (1, .ref (mad E (y1))), (2, .ref (mad E (y2))), (3, .ref (mad E (y3))), (5, .int (y5)), (7, .int (y7))]) hx hb dL_why_241 hl (by decide) rfl (fun ls hl => ?_)
            refine lv_goto (tgt := 165) hx hb dL_why_243 (by decide) ?_
            exact ih _ _ _ _ _ _ _ hT Z (lv_sub hl [4, 5, 6, 7, 8, 1, 0] rfl) k0 k1
          · replace hT := mx_f hT h_29
            refine lv_iload hx hb dL_why_226 (lv_at hl 1 rfl) ?_
            refine lv_goto (tgt := 233) hx hb dL_why_228 (by decide) ?_
            refine lv_iadd hx hb dL_why_233 ?_
            obtain ⟨v_32, e_v_32, hT⟩ := mx_nm hT
            refine mx_tops (congrArg (fun z => (.int (z) :: [] : List Value)) e_v_32) ?_
            refine lv_istore (lv' := [(9, .int (v_32)), (12, .int (v_26)), (11, .int (v_24)), (1, .ref (mad E (y1))), (2, .ref (mad E (y2))), (3, .ref (mad E (y3))), (5, .int (y5)), (7, .int (y7)), (10, .int (w10))]) hx hb dL_why_234 hl (by decide) rfl (fun ls hl => ?_)
            refine lv_iload hx hb dL_why_236 (lv_at hl 8 rfl) ?_
            refine lv_iload hx hb dL_why_238 (lv_at hl 7 rfl) ?_
            refine lv_iadd hx hb dL_why_240 ?_
            obtain ⟨v_33, e_v_33, hT⟩ := mx_nm hT
            refine mx_tops (congrArg (fun z => (.int (z) :: [] : List Value)) e_v_33) ?_
            refine lv_istore (lv' := [(10, .int (v_33)), (9, .int (v_32)), (12, .int (v_26)), (11, .int (v_24)), (1, .ref (mad E (y1))), (2, .ref (mad E (y2))), (3, .ref (mad E (y3))), (5, .int (y5)), (7, .int (y7))]) hx hb dL_why_241 hl (by decide) rfl (fun ls hl => ?_)
            refine lv_goto (tgt := 165) hx hb dL_why_243 (by decide) ?_
            exact ih _ _ _ _ _ _ _ hT Z (lv_sub hl [4, 5, 6, 7, 8, 1, 0] rfl) k0 k1
        · replace hT := mx_f hT h_28
          cases hT
          exact k1 rfl _ _ _ Z (lv_sub hl [2, 3, 4, 5, 6] rfl)
      · replace hT := mx_f hT h_27
        refine lv_iload hx hb dL_why_207 (lv_at hl 0 rfl) ?_
        refine lv_goto (tgt := 214) hx hb dL_why_209 (by decide) ?_
        refine lv_if_le (tgt := 219) hx hb dL_why_214 (by decide) (fun h_34 => ?_) (fun h_34 => ?_)
        · replace hT := mx_t hT h_34
          refine lv_iload hx hb dL_why_219 (lv_at hl 7 rfl) ?_
          refine lv_iload hx hb dL_why_221 (lv_at hl 5 rfl) ?_
          refine lv_if_eq (tgt := 231) hx hb dL_why_223 (by decide) (fun h_35 => ?_) (fun h_35 => ?_)
          · replace hT := mx_t hT h_35
            refine lv_iload hx hb dL_why_231 (lv_at hl 0 rfl) ?_
            refine lv_iadd hx hb dL_why_233 ?_
            obtain ⟨v_36, e_v_36, hT⟩ := mx_nm hT
            refine mx_tops (congrArg (fun z => (.int (z) :: [] : List Value)) e_v_36) ?_
            refine lv_istore (lv' := [(9, .int (v_36)), (12, .int (v_26)), (11, .int (v_24)), (1, .ref (mad E (y1))), (2, .ref (mad E (y2))), (3, .ref (mad E (y3))), (5, .int (y5)), (7, .int (y7)), (10, .int (w10))]) hx hb dL_why_234 hl (by decide) rfl (fun ls hl => ?_)
            refine lv_iload hx hb dL_why_236 (lv_at hl 8 rfl) ?_
            refine lv_iload hx hb dL_why_238 (lv_at hl 7 rfl) ?_
            refine lv_iadd hx hb dL_why_240 ?_
            obtain ⟨v_37, e_v_37, hT⟩ := mx_nm hT
            refine mx_tops (congrArg (fun z => (.int (z) :: [] : List Value)) e_v_37) ?_
            refine lv_istore (lv' := [(10, .int (v_37)), (9, .int (v_36)), (12, .int (v_26)), (11, .int (v_24)), (1, .ref (mad E (y1))), (2, .ref (mad E (y2))), (3, .ref (mad E (y3))), (5, .int (y5)), (7, .int (y7))]) hx hb dL_why_241 hl (by decide) rfl (fun ls hl => ?_)
            refine lv_goto (tgt := 165) hx hb dL_why_243 (by decide) ?_
            exact ih _ _ _ _ _ _ _ hT Z (lv_sub hl [4, 5, 6, 7, 8, 1, 0] rfl) k0 k1
          · replace hT := mx_f hT h_35
            refine lv_iload hx hb dL_why_226 (lv_at hl 1 rfl) ?_
            refine lv_goto (tgt := 233) hx hb dL_why_228 (by decide) ?_
            refine lv_iadd hx hb dL_why_233 ?_
            obtain ⟨v_38, e_v_38, hT⟩ := mx_nm hT
            refine mx_tops (congrArg (fun z => (.int (z) :: [] : List Value)) e_v_38) ?_
            refine lv_istore (lv' := [(9, .int (v_38)), (12, .int (v_26)), (11, .int (v_24)), (1, .ref (mad E (y1))), (2, .ref (mad E (y2))), (3, .ref (mad E (y3))), (5, .int (y5)), (7, .int (y7)), (10, .int (w10))]) hx hb dL_why_234 hl (by decide) rfl (fun ls hl => ?_)
            refine lv_iload hx hb dL_why_236 (lv_at hl 8 rfl) ?_
            refine lv_iload hx hb dL_why_238 (lv_at hl 7 rfl) ?_
            refine lv_iadd hx hb dL_why_240 ?_
            obtain ⟨v_39, e_v_39, hT⟩ := mx_nm hT
            refine mx_tops (congrArg (fun z => (.int (z) :: [] : List Value)) e_v_39) ?_
            refine lv_istore (lv' := [(10, .int (v_39)), (9, .int (v_38)), (12, .int (v_26)), (11, .int (v_24)), (1, .ref (mad E (y1))), (2, .ref (mad E (y2))), (3, .ref (mad E (y3))), (5, .int (y5)), (7, .int (y7))]) hx hb dL_why_241 hl (by decide) rfl (fun ls hl => ?_)
            refine lv_goto (tgt := 165) hx hb dL_why_243 (by decide) ?_
            exact ih _ _ _ _ _ _ _ hT Z (lv_sub hl [4, 5, 6, 7, 8, 1, 0] rfl) k0 k1
        · replace hT := mx_f hT h_34
          cases hT
          exact k1 rfl _ _ _ Z (lv_sub hl [2, 3, 4, 5, 6] rfl)
set_option maxHeartbeats 4000000 in
set_option maxRecDepth 100000 in
theorem mL_why (l : Launch) (E : mE) (hJ : mJ E) {a1 : Nat} {n1 : Nat} {a2 : Nat} {n2 : Nat} {a3 : Nat} {n3 : Nat} (ha1 : mAi E a1 1 n1) (ha2 : mAi E a2 1 n2) (ha3 : mAi E a3 1 n3) (x0 : Int32) (G : mM) (q : Int32) (hT : xL_why x0 a1 n1 a2 n2 a3 n3 G = some q) : mMet l E yL_why cL_why 13 (some .int) 3 67 [.int (x0), .ref (mad E (a1)), .ref (mad E (a2)), .ref (mad E (a3))] G (some (.int q)) G := by
  refine Met.ofW (cc := cL_why) (maxL := 13) (ret := (some .int)) (by decide) rfl ?_
  intro p e s m args below meth cd s₁ B hml hv
  obtain ⟨rfl, hP, hK, hS⟩ := hv
  have X := mx_entry (own := RL) B hml hK hJ hS rfl
  have hx := X.1
  have hb := X.2.1
  have hown := X.2.2.2.1
  have hts := X.2.2.2.2.1
  have hr := B.returns
  have hlocks := B.notSynchronized
  have hR : 3 ≤ (headSpec (mWs yL_why cL_why 13 (some .int)) ({ frames := 3, cells := 0, slots := 0, locals := 67 })).room.frames ∧ 67 ≤ (headSpec (mWs yL_why cL_why 13 (some .int)) ({ frames := 3, cells := 0, slots := 0, locals := 67 })).room.locals := ⟨Nat.le_refl _, Nat.le_refl _⟩
  have Z : mZ E s.heap s.heap [] G := ⟨hP, va_S.rf⟩
  have hl := lv_entry ([.int (x0), .ref (mad E (a1)), .ref (mad E (a2)), .ref (mad E (a3))]) (n := 13) (Nat.le_of_ble_eq_true rfl)
  rw [lg_entry_eq]
  generalize (lg_sl ([.int (x0), .ref (mad E (a1)), .ref (mad E (a2)), .ref (mad E (a3))]) ++ List.replicate (13 - (lg_sl ([.int (x0), .ref (mad E (a1)), .ref (mad E (a2)), .ref (mad E (a3))])).length) Slot.unset).toArray = ls at hl ⊢
  have hl : lv_has ls 13 [(0, .int (x0)), (1, .ref (mad E (a1))), (2, .ref (mad E (a2))), (3, .ref (mad E (a3)))] := hl
  unfold xL_why at hT
  refine lv_bipush (v := (10 : Int32)) hx hb dL_why_0 (by decide) ?_
  refine lv_iload_n hx hb dL_why_2 rfl (lv_at hl 0 rfl) ?_
  refine lv_imul hx hb dL_why_3 ?_
  obtain ⟨v_1, e_v_1, hT⟩ := mx_nm hT
  refine mx_tops (congrArg (fun z => (.int (z) :: [] : List Value)) e_v_1) ?_
  refine lv_istore (lv' := [(4, .int (v_1)), (0, .int (x0)), (1, .ref (mad E (a1))), (2, .ref (mad E (a2))), (3, .ref (mad E (a3)))]) hx hb dL_why_4 hl (by decide) rfl (fun ls hl => ?_)
  refine lv_aload_n hx hb dL_why_6 rfl (lv_at hl 4 rfl) ?_
  refine lv_iload hx hb dL_why_7 (lv_at hl 0 rfl) ?_
  refine lv_iconst (v := (4 : Int32)) hx hb dL_why_9 (by decide) ?_
  refine lv_iadd hx hb dL_why_10 ?_
  obtain ⟨h_2, hT⟩ := mx_chk hT
  refine mx_iald X Z ha3 h_2 dL_why_11 ?_
  refine lv_iconst (v := (1 : Int32)) hx hb dL_why_12 (by decide) ?_
  refine lv_icmp_ne (tgt := 20) hx hb dL_why_13 (by decide) (fun h_3 => ?_) (fun h_3 => ?_)
  · replace hT := mx_f hT h_3
    refine lv_iconst (v := (0 : Int32)) hx hb dL_why_20 (by decide) ?_
    refine lv_istore (lv' := [(5, .int ((0 : Int32))), (4, .int (v_1)), (0, .int (x0)), (1, .ref (mad E (a1))), (2, .ref (mad E (a2))), (3, .ref (mad E (a3)))]) hx hb dL_why_21 hl (by decide) rfl (fun ls hl => ?_)
    refine lv_aload_n hx hb dL_why_23 rfl (lv_at hl 5 rfl) ?_
    refine lv_iload hx hb dL_why_24 (lv_at hl 1 rfl) ?_
    refine lv_iconst (v := (3 : Int32)) hx hb dL_why_26 (by decide) ?_
    refine lv_iadd hx hb dL_why_27 ?_
    obtain ⟨h_4, hT⟩ := mx_chk hT
    refine mx_iald X Z ha3 h_4 dL_why_28 ?_
    obtain ⟨v_5, e_v_5, hT⟩ := mx_nm hT
    refine mx_tops (congrArg (fun z => (.int (z) :: [] : List Value)) e_v_5) ?_
    refine lv_istore (lv' := [(6, .int (v_5)), (5, .int ((0 : Int32))), (4, .int (v_1)), (0, .int (x0)), (1, .ref (mad E (a1))), (2, .ref (mad E (a2))), (3, .ref (mad E (a3)))]) hx hb dL_why_29 hl (by decide) rfl (fun ls hl => ?_)
    refine lv_iload hx hb dL_why_31 (lv_at hl 1 rfl) ?_
    refine lv_if_eq (tgt := 48) hx hb dL_why_33 (by decide) (fun h_6 => ?_) (fun h_6 => ?_)
    · refine lv_iload hx hb dL_why_48 (lv_at hl 1 rfl) ?_
      refine lv_if_ne (tgt := 82) hx hb dL_why_50 (by decide) (fun h_7 => ?_) (fun h_7 => ?_)
      · exact absurd h_7 (by decide)
      · refine lv_iload hx hb dL_why_53 (lv_at hl 0 rfl) ?_
        refine lv_if_ne (tgt := 82) hx hb dL_why_55 (by decide) (fun h_8 => ?_) (fun h_8 => ?_)
        · replace hT := mx_f hT h_8
          refine lv_iload hx hb dL_why_82 (lv_at hl 1 rfl) ?_
          refine lv_if_eq (tgt := 91) hx hb dL_why_84 (by decide) (fun h_9 => ?_) (fun h_9 => ?_)
          · refine lv_iconst (v := (-1 : Int32)) hx hb dL_why_91 (by decide) ?_
            refine lv_istore (lv' := [(7, .int ((-1 : Int32))), (6, .int (v_5)), (5, .int ((0 : Int32))), (4, .int (v_1)), (0, .int (x0)), (1, .ref (mad E (a1))), (2, .ref (mad E (a2))), (3, .ref (mad E (a3)))]) hx hb dL_why_92 hl (by decide) rfl (fun ls hl => ?_)
            refine lv_iload hx hb dL_why_94 (lv_at hl 1 rfl) ?_
            refine lv_iload hx hb dL_why_96 (lv_at hl 0 rfl) ?_
            refine lv_iadd hx hb dL_why_98 ?_
            obtain ⟨v_10, e_v_10, hT⟩ := mx_nm hT
            refine mx_tops (congrArg (fun z => (.int (z) :: [] : List Value)) e_v_10) ?_
            refine lv_istore (lv' := [(8, .int (v_10)), (7, .int ((-1 : Int32))), (6, .int (v_5)), (5, .int ((0 : Int32))), (4, .int (v_1)), (0, .int (x0)), (1, .ref (mad E (a1))), (2, .ref (mad E (a2))), (3, .ref (mad E (a3)))]) hx hb dL_why_99 hl (by decide) rfl (fun ls hl => ?_)
            refine lv_aload_n hx hb dL_why_101 rfl (lv_at hl 7 rfl) ?_
            refine lv_iconst (v := (3 : Int32)) hx hb dL_why_102 (by decide) ?_
            refine lv_iload hx hb dL_why_103 (lv_at hl 0 rfl) ?_
            refine lv_imul hx hb dL_why_105 ?_
            refine lv_iconst (v := (2 : Int32)) hx hb dL_why_106 (by decide) ?_
            refine lv_iadd hx hb dL_why_107 ?_
            obtain ⟨h_11, hT⟩ := mx_chk hT
            refine mx_iald X Z ha2 h_11 dL_why_108 ?_
            refine lv_aload_n hx hb dL_why_109 rfl (lv_at hl 6 rfl) ?_
            refine lv_iconst (v := (2 : Int32)) hx hb dL_why_110 (by decide) ?_
            obtain ⟨h_12, hT⟩ := mx_chk hT
            refine mx_iald X Z ha1 h_12 dL_why_111 ?_
            refine mx_tops (s2 := [.int (G a1 (((2 : Int32)).toNatClampNeg)), .int (G a2 (((((3 : Int32)) * v_10) + ((2 : Int32))).toNatClampNeg))]) rfl ?_
            refine lv_icmp_le (tgt := 117) hx hb dL_why_112 (by decide) (fun h_13 => ?_) (fun h_13 => ?_)
            · replace hT := mx_t hT h_13
              refine lv_iload hx hb dL_why_117 (lv_at hl 0 rfl) ?_
              refine lv_aload_n hx hb dL_why_119 rfl (lv_at hl 6 rfl) ?_
              refine lv_aload_n hx hb dL_why_120 rfl (lv_at hl 8 rfl) ?_
              obtain ⟨q_14, h_q_14, hT⟩ := mx_bind hT
              refine mx_callS (As := [.int (v_10), .ref (mad E (a1)), .ref (mad E (a3))]) (rest := []) (st1 := [.int (q_14)]) X Z hl.1 (mL_many l E hJ ha1 ha3 _ _ _ h_q_14) wd_11_19 wd_11_20 wd_10_7 wd_11_21 hdL_many ⟨Nat.le_trans (by decide) hR.1, Nat.le_trans (by decide) hR.2⟩ ⟨Nat.zero_le _, Nat.zero_le _⟩ (Nat.le_of_ble_eq_true rfl) rfl rfl dL_why_121 (fun H locs Z => ?_)
              refine lv_iload hx hb dL_why_124 (lv_at hl 0 rfl) ?_
              refine lv_aload_n hx hb dL_why_126 rfl (lv_at hl 6 rfl) ?_
              refine lv_aload_n hx hb dL_why_127 rfl (lv_at hl 7 rfl) ?_
              obtain ⟨q_15, h_q_15, hT⟩ := mx_bind hT
              refine mx_callS (As := [.int (v_10), .ref (mad E (a1)), .ref (mad E (a2))]) (rest := [.int (q_14)]) (st1 := [.int (q_15), .int (q_14)]) X Z hl.1 (mL_room l E hJ ha1 ha2 _ _ _ h_q_15) wd_12_4 wd_12_5 wd_10_7 wd_12_6 hdL_room ⟨Nat.le_trans (by decide) hR.1, Nat.le_trans (by decide) hR.2⟩ ⟨Nat.zero_le _, Nat.zero_le _⟩ (Nat.le_of_ble_eq_true rfl) rfl rfl dL_why_128 (fun H locs Z => ?_)
              refine lv_icmp_lt (tgt := 136) hx hb dL_why_131 (by decide) (fun h_16 => ?_) (fun h_16 => ?_)
              · replace hT := mx_t hT h_16
                refine lv_iload hx hb dL_why_136 (lv_at hl 2 rfl) ?_
                refine lv_aload_n hx hb dL_why_138 rfl (lv_at hl 6 rfl) ?_
                refine lv_aload_n hx hb dL_why_139 rfl (lv_at hl 7 rfl) ?_
                obtain ⟨q_17, h_q_17, hT⟩ := mx_bind hT
                refine mx_callS (As := [.int (v_5), .ref (mad E (a1)), .ref (mad E (a2))]) (rest := []) (st1 := [.int (q_17)]) X Z hl.1 (mL_passing l E hJ ha1 ha2 _ _ _ h_q_17) wd_11_16 wd_11_17 wd_10_7 wd_11_18 hdL_passing ⟨Nat.le_trans (by decide) hR.1, Nat.le_trans (by decide) hR.2⟩ ⟨Nat.zero_le _, Nat.zero_le _⟩ (Nat.le_of_ble_eq_true rfl) rfl rfl dL_why_140 (fun H locs Z => ?_)
                refine lv_if_eq (tgt := 156) hx hb dL_why_143 (by decide) (fun h_18 => ?_) (fun h_18 => ?_)
                · replace hT := mx_t hT h_18
                  refine lv_iconst (v := (0 : Int32)) hx hb dL_why_156 (by decide) ?_
                  cases hT
                  exact W.iret hx hb hr (fun t ht hW => mx_end Z t ht _) Z.2.2.2 dL_why_157
                · replace hT := mx_f hT h_18
                  refine lv_iload hx hb dL_why_146 (lv_at hl 0 rfl) ?_
                  refine lv_aload_n hx hb dL_why_148 rfl (lv_at hl 6 rfl) ?_
                  refine lv_aload_n hx hb dL_why_149 rfl (lv_at hl 7 rfl) ?_
                  obtain ⟨q_19, h_q_19, hT⟩ := mx_bind hT
                  refine mx_callS (As := [.int (v_10), .ref (mad E (a1)), .ref (mad E (a2))]) (rest := []) (st1 := [.int (q_19)]) X Z hl.1 (mL_passing l E hJ ha1 ha2 _ _ _ h_q_19) wd_11_16 wd_11_17 wd_10_7 wd_11_18 hdL_passing ⟨Nat.le_trans (by decide) hR.1, Nat.le_trans (by decide) hR.2⟩ ⟨Nat.zero_le _, Nat.zero_le _⟩ (Nat.le_of_ble_eq_true rfl) rfl rfl dL_why_150 (fun H locs Z => ?_)
                  refine lv_if_eq (tgt := 158) hx hb dL_why_153 (by decide) (fun h_20 => ?_) (fun h_20 => ?_)
                  · replace hT := mx_t hT h_20
                    refine lv_iconst (v := (0 : Int32)) hx hb dL_why_158 (by decide) ?_
                    refine lv_istore (lv' := [(9, .int ((0 : Int32))), (8, .int (v_10)), (7, .int ((-1 : Int32))), (6, .int (v_5)), (5, .int ((0 : Int32))), (4, .int (v_1)), (0, .int (x0)), (1, .ref (mad E (a1))), (2, .ref (mad E (a2))), (3, .ref (mad E (a3)))]) hx hb dL_why_159 hl (by decide) rfl (fun ls hl => ?_)
                    refine lv_iload hx hb dL_why_161 (lv_at hl 1 rfl) ?_
                    refine lv_istore (lv' := [(10, .int (v_10)), (9, .int ((0 : Int32))), (8, .int (v_10)), (7, .int ((-1 : Int32))), (6, .int (v_5)), (5, .int ((0 : Int32))), (4, .int (v_1)), (0, .int (x0)), (1, .ref (mad E (a1))), (2, .ref (mad E (a2))), (3, .ref (mad E (a3)))]) hx hb dL_why_163 hl (by decide) rfl (fun ls hl => ?_)
                    obtain ⟨q_40, h_q_40, hT⟩ := mx_bind hT
                    refine kL_why_165 X hR hJ ha1 ha2 ha3 _ _ _ _ _ _ _ _ _ _ h_q_40 Z (lv_sub (l' := [(1, .ref (mad E (a1))), (2, .ref (mad E (a2))), (3, .ref (mad E (a3))), (5, .int ((0 : Int32))), (7, .int ((-1 : Int32))), (9, .int ((0 : Int32))), (10, .int (v_10))]) hl [8, 9, 10, 5, 3, 1, 0] rfl) (fun ht H locs ls Z hl => ?_) (fun ht H locs ls Z hl => ?_)
                    · replace hT := mx_t hT ht
                      refine lv_iload hx hb dL_why_246 (lv_at hl 6 rfl) ?_
                      refine lv_if_le (tgt := 279) hx hb dL_why_248 (by decide) (fun h_41 => ?_) (fun h_41 => ?_)
                      · replace hT := mx_t hT h_41
                        refine lv_iconst (v := (0 : Int32)) hx hb dL_why_279 (by decide) ?_
                        cases hT
                        exact W.iret hx hb hr (fun t ht hW => mx_end Z t ht _) Z.2.2.2 dL_why_280
                      · replace hT := mx_f hT h_41
                        refine lv_iload hx hb dL_why_251 (lv_at hl 6 rfl) ?_
                        refine lv_aload_n hx hb dL_why_253 rfl (lv_at hl 0 rfl) ?_
                        refine lv_iconst (v := (0 : Int32)) hx hb dL_why_254 (by decide) ?_
                        obtain ⟨h_42, hT⟩ := mx_chk hT
                        refine mx_iald X Z ha1 h_42 dL_why_255 ?_
                        refine mx_tops (s2 := [.int (G a1 (((0 : Int32)).toNatClampNeg)), .int (q_40.2.2)]) rfl ?_
                        refine lv_iconst (v := (1 : Int32)) hx hb dL_why_256 (by decide) ?_
                        refine lv_isub hx hb dL_why_257 ?_
                        refine lv_icmp_ge (tgt := 279) hx hb dL_why_258 (by decide) (fun h_43 => ?_) (fun h_43 => ?_)
                        · replace hT := mx_t hT h_43
                          refine lv_iconst (v := (0 : Int32)) hx hb dL_why_279 (by decide) ?_
                          cases hT
                          exact W.iret hx hb hr (fun t ht hW => mx_end Z t ht _) Z.2.2.2 dL_why_280
                        · replace hT := mx_f hT h_43
                          refine lv_iload hx hb dL_why_261 (lv_at hl 6 rfl) ?_
                          refine lv_aload_n hx hb dL_why_263 rfl (lv_at hl 0 rfl) ?_
                          refine lv_aload_n hx hb dL_why_264 rfl (lv_at hl 2 rfl) ?_
                          obtain ⟨q_44, h_q_44, hT⟩ := mx_bind hT
                          refine mx_callS (As := [.int (q_40.2.2), .ref (mad E (a1)), .ref (mad E (a3))]) (rest := []) (st1 := [.int (q_44)]) X Z hl.1 (mL_many l E hJ ha1 ha3 _ _ _ h_q_44) wd_11_19 wd_11_20 wd_10_7 wd_11_21 hdL_many ⟨Nat.le_trans (by decide) hR.1, Nat.le_trans (by decide) hR.2⟩ ⟨Nat.zero_le _, Nat.zero_le _⟩ (Nat.le_of_ble_eq_true rfl) rfl rfl dL_why_265 (fun H locs Z => ?_)
                          refine lv_iload hx hb dL_why_268 (lv_at hl 5 rfl) ?_
                          refine lv_iadd hx hb dL_why_270 ?_
                          refine lv_iconst (v := (2 : Int32)) hx hb dL_why_271 (by decide) ?_
                          refine lv_icmp_lt (tgt := 279) hx hb dL_why_272 (by decide) (fun h_45 => ?_) (fun h_45 => ?_)
                          · replace hT := mx_t hT h_45
                            refine lv_iconst (v := (0 : Int32)) hx hb dL_why_279 (by decide) ?_
                            cases hT
                            exact W.iret hx hb hr (fun t ht hW => mx_end Z t ht _) Z.2.2.2 dL_why_280
                          · replace hT := mx_f hT h_45
                            refine lv_iconst (v := (5 : Int32)) hx hb dL_why_275 (by decide) ?_
                            refine lv_goto (tgt := 280) hx hb dL_why_276 (by decide) ?_
                            cases hT
                            exact W.iret hx hb hr (fun t ht hW => mx_end Z t ht _) Z.2.2.2 dL_why_280
                    · replace hT := mx_f hT (by rw [ht]; decide)
                      refine lv_iconst (v := (4 : Int32)) hx hb dL_why_217 (by decide) ?_
                      cases hT
                      exact W.iret hx hb hr (fun t ht hW => mx_end Z t ht _) Z.2.2.2 dL_why_218
                  · replace hT := mx_f hT h_20
                    refine lv_iconst (v := (0 : Int32)) hx hb dL_why_156 (by decide) ?_
                    cases hT
                    exact W.iret hx hb hr (fun t ht hW => mx_end Z t ht _) Z.2.2.2 dL_why_157
              · replace hT := mx_f hT h_16
                refine lv_iconst (v := (3 : Int32)) hx hb dL_why_134 (by decide) ?_
                cases hT
                exact W.iret hx hb hr (fun t ht hW => mx_end Z t ht _) Z.2.2.2 dL_why_135
            · replace hT := mx_f hT h_13
              refine lv_iconst (v := (2 : Int32)) hx hb dL_why_115 (by decide) ?_
              cases hT
              exact W.iret hx hb hr (fun t ht hW => mx_end Z t ht _) Z.2.2.2 dL_why_116
          · exact absurd h_9 (by decide)
        · replace hT := mx_t hT h_8
          refine lv_aload_n hx hb dL_why_58 rfl (lv_at hl 4 rfl) ?_
          refine lv_bipush (v := (6 : Int32)) hx hb dL_why_59 (by decide) ?_
          obtain ⟨h_46, hT⟩ := mx_chk hT
          refine mx_iald X Z ha1 h_46 dL_why_61 ?_
          refine mx_tops (s2 := [.int (G a1 (((6 : Int32)).toNatClampNeg))]) rfl ?_
          refine lv_aload_n hx hb dL_why_62 rfl (lv_at hl 6 rfl) ?_
          refine lv_iload hx hb dL_why_63 (lv_at hl 2 rfl) ?_
          obtain ⟨h_47, hT⟩ := mx_chk hT
          refine mx_iald X Z ha3 h_47 dL_why_65 ?_
          refine lv_aload_n hx hb dL_why_66 rfl (lv_at hl 6 rfl) ?_
          refine lv_iload hx hb dL_why_67 (lv_at hl 2 rfl) ?_
          refine lv_iconst (v := (1 : Int32)) hx hb dL_why_69 (by decide) ?_
          refine lv_iadd hx hb dL_why_70 ?_
          obtain ⟨h_48, hT⟩ := mx_chk hT
          refine mx_iald X Z ha3 h_48 dL_why_71 ?_
          refine lv_imul hx hb dL_why_72 ?_
          refine lv_icmp_ge (tgt := 80) hx hb dL_why_73 (by decide) (fun h_49 => ?_) (fun h_49 => ?_)
          · replace hT := mx_t hT h_49
            refine lv_iconst (v := (0 : Int32)) hx hb dL_why_80 (by decide) ?_
            cases hT
            exact W.iret hx hb hr (fun t ht hW => mx_end Z t ht _) Z.2.2.2 dL_why_81
          · replace hT := mx_f hT h_49
            refine lv_iconst (v := (1 : Int32)) hx hb dL_why_76 (by decide) ?_
            refine lv_goto (tgt := 81) hx hb dL_why_77 (by decide) ?_
            cases hT
            exact W.iret hx hb hr (fun t ht hW => mx_end Z t ht _) Z.2.2.2 dL_why_81
    · exact absurd h_6 (by decide)
  · replace hT := mx_t hT h_3
    refine lv_iconst (v := (1 : Int32)) hx hb dL_why_16 (by decide) ?_
    refine lv_goto (tgt := 21) hx hb dL_why_17 (by decide) ?_
    refine lv_istore (lv' := [(5, .int ((1 : Int32))), (4, .int (v_1)), (0, .int (x0)), (1, .ref (mad E (a1))), (2, .ref (mad E (a2))), (3, .ref (mad E (a3)))]) hx hb dL_why_21 hl (by decide) rfl (fun ls hl => ?_)
    refine lv_aload_n hx hb dL_why_23 rfl (lv_at hl 5 rfl) ?_
    refine lv_iload hx hb dL_why_24 (lv_at hl 1 rfl) ?_
    refine lv_iconst (v := (3 : Int32)) hx hb dL_why_26 (by decide) ?_
    refine lv_iadd hx hb dL_why_27 ?_
    obtain ⟨h_50, hT⟩ := mx_chk hT
    refine mx_iald X Z ha3 h_50 dL_why_28 ?_
    obtain ⟨v_51, e_v_51, hT⟩ := mx_nm hT
    refine mx_tops (congrArg (fun z => (.int (z) :: [] : List Value)) e_v_51) ?_
    refine lv_istore (lv' := [(6, .int (v_51)), (5, .int ((1 : Int32))), (4, .int (v_1)), (0, .int (x0)), (1, .ref (mad E (a1))), (2, .ref (mad E (a2))), (3, .ref (mad E (a3)))]) hx hb dL_why_29 hl (by decide) rfl (fun ls hl => ?_)
    refine lv_iload hx hb dL_why_31 (lv_at hl 1 rfl) ?_
    refine lv_if_eq (tgt := 48) hx hb dL_why_33 (by decide) (fun h_52 => ?_) (fun h_52 => ?_)
    · exact absurd h_52 (by decide)
    · refine lv_iload hx hb dL_why_36 (lv_at hl 0 rfl) ?_
      refine lv_aload_n hx hb dL_why_38 rfl (lv_at hl 4 rfl) ?_
      refine lv_iconst (v := (0 : Int32)) hx hb dL_why_39 (by decide) ?_
      obtain ⟨h_53, hT⟩ := mx_chk hT
      refine mx_iald X Z ha1 h_53 dL_why_40 ?_
      refine mx_tops (s2 := [.int (G a1 (((0 : Int32)).toNatClampNeg)), .int (v_51)]) rfl ?_
      refine lv_iconst (v := (1 : Int32)) hx hb dL_why_41 (by decide) ?_
      refine lv_isub hx hb dL_why_42 ?_
      refine lv_icmp_ne (tgt := 48) hx hb dL_why_43 (by decide) (fun h_54 => ?_) (fun h_54 => ?_)
      · replace hT := mx_f hT h_54
        refine lv_iload hx hb dL_why_48 (lv_at hl 1 rfl) ?_
        refine lv_if_ne (tgt := 82) hx hb dL_why_50 (by decide) (fun h_55 => ?_) (fun h_55 => ?_)
        · refine lv_iload hx hb dL_why_82 (lv_at hl 1 rfl) ?_
          refine lv_if_eq (tgt := 91) hx hb dL_why_84 (by decide) (fun h_56 => ?_) (fun h_56 => ?_)
          · exact absurd h_56 (by decide)
          · refine lv_iconst (v := (1 : Int32)) hx hb dL_why_87 (by decide) ?_
            refine lv_goto (tgt := 92) hx hb dL_why_88 (by decide) ?_
            refine lv_istore (lv' := [(7, .int ((1 : Int32))), (6, .int (v_51)), (5, .int ((1 : Int32))), (4, .int (v_1)), (0, .int (x0)), (1, .ref (mad E (a1))), (2, .ref (mad E (a2))), (3, .ref (mad E (a3)))]) hx hb dL_why_92 hl (by decide) rfl (fun ls hl => ?_)
            refine lv_iload hx hb dL_why_94 (lv_at hl 1 rfl) ?_
            refine lv_iload hx hb dL_why_96 (lv_at hl 0 rfl) ?_
            refine lv_iadd hx hb dL_why_98 ?_
            obtain ⟨v_57, e_v_57, hT⟩ := mx_nm hT
            refine mx_tops (congrArg (fun z => (.int (z) :: [] : List Value)) e_v_57) ?_
            refine lv_istore (lv' := [(8, .int (v_57)), (7, .int ((1 : Int32))), (6, .int (v_51)), (5, .int ((1 : Int32))), (4, .int (v_1)), (0, .int (x0)), (1, .ref (mad E (a1))), (2, .ref (mad E (a2))), (3, .ref (mad E (a3)))]) hx hb dL_why_99 hl (by decide) rfl (fun ls hl => ?_)
            refine lv_aload_n hx hb dL_why_101 rfl (lv_at hl 7 rfl) ?_
            refine lv_iconst (v := (3 : Int32)) hx hb dL_why_102 (by decide) ?_
            refine lv_iload hx hb dL_why_103 (lv_at hl 0 rfl) ?_
            refine lv_imul hx hb dL_why_105 ?_
            refine lv_iconst (v := (2 : Int32)) hx hb dL_why_106 (by decide) ?_
            refine lv_iadd hx hb dL_why_107 ?_
            obtain ⟨h_58, hT⟩ := mx_chk hT
            refine mx_iald X Z ha2 h_58 dL_why_108 ?_
            refine lv_aload_n hx hb dL_why_109 rfl (lv_at hl 6 rfl) ?_
            refine lv_iconst (v := (2 : Int32)) hx hb dL_why_110 (by decide) ?_
            obtain ⟨h_59, hT⟩ := mx_chk hT
            refine mx_iald X Z ha1 h_59 dL_why_111 ?_
            refine mx_tops (s2 := [.int (G a1 (((2 : Int32)).toNatClampNeg)), .int (G a2 (((((3 : Int32)) * v_57) + ((2 : Int32))).toNatClampNeg))]) rfl ?_
            refine lv_icmp_le (tgt := 117) hx hb dL_why_112 (by decide) (fun h_60 => ?_) (fun h_60 => ?_)
            · replace hT := mx_t hT h_60
              refine lv_iload hx hb dL_why_117 (lv_at hl 0 rfl) ?_
              refine lv_aload_n hx hb dL_why_119 rfl (lv_at hl 6 rfl) ?_
              refine lv_aload_n hx hb dL_why_120 rfl (lv_at hl 8 rfl) ?_
              obtain ⟨q_61, h_q_61, hT⟩ := mx_bind hT
              refine mx_callS (As := [.int (v_57), .ref (mad E (a1)), .ref (mad E (a3))]) (rest := []) (st1 := [.int (q_61)]) X Z hl.1 (mL_many l E hJ ha1 ha3 _ _ _ h_q_61) wd_11_19 wd_11_20 wd_10_7 wd_11_21 hdL_many ⟨Nat.le_trans (by decide) hR.1, Nat.le_trans (by decide) hR.2⟩ ⟨Nat.zero_le _, Nat.zero_le _⟩ (Nat.le_of_ble_eq_true rfl) rfl rfl dL_why_121 (fun H locs Z => ?_)
              refine lv_iload hx hb dL_why_124 (lv_at hl 0 rfl) ?_
              refine lv_aload_n hx hb dL_why_126 rfl (lv_at hl 6 rfl) ?_
              refine lv_aload_n hx hb dL_why_127 rfl (lv_at hl 7 rfl) ?_
              obtain ⟨q_62, h_q_62, hT⟩ := mx_bind hT
              refine mx_callS (As := [.int (v_57), .ref (mad E (a1)), .ref (mad E (a2))]) (rest := [.int (q_61)]) (st1 := [.int (q_62), .int (q_61)]) X Z hl.1 (mL_room l E hJ ha1 ha2 _ _ _ h_q_62) wd_12_4 wd_12_5 wd_10_7 wd_12_6 hdL_room ⟨Nat.le_trans (by decide) hR.1, Nat.le_trans (by decide) hR.2⟩ ⟨Nat.zero_le _, Nat.zero_le _⟩ (Nat.le_of_ble_eq_true rfl) rfl rfl dL_why_128 (fun H locs Z => ?_)
              refine lv_icmp_lt (tgt := 136) hx hb dL_why_131 (by decide) (fun h_63 => ?_) (fun h_63 => ?_)
              · replace hT := mx_t hT h_63
                refine lv_iload hx hb dL_why_136 (lv_at hl 2 rfl) ?_
                refine lv_aload_n hx hb dL_why_138 rfl (lv_at hl 6 rfl) ?_
                refine lv_aload_n hx hb dL_why_139 rfl (lv_at hl 7 rfl) ?_
                obtain ⟨q_64, h_q_64, hT⟩ := mx_bind hT
                refine mx_callS (As := [.int (v_51), .ref (mad E (a1)), .ref (mad E (a2))]) (rest := []) (st1 := [.int (q_64)]) X Z hl.1 (mL_passing l E hJ ha1 ha2 _ _ _ h_q_64) wd_11_16 wd_11_17 wd_10_7 wd_11_18 hdL_passing ⟨Nat.le_trans (by decide) hR.1, Nat.le_trans (by decide) hR.2⟩ ⟨Nat.zero_le _, Nat.zero_le _⟩ (Nat.le_of_ble_eq_true rfl) rfl rfl dL_why_140 (fun H locs Z => ?_)
                refine lv_if_eq (tgt := 156) hx hb dL_why_143 (by decide) (fun h_65 => ?_) (fun h_65 => ?_)
                · replace hT := mx_t hT h_65
                  refine lv_iconst (v := (0 : Int32)) hx hb dL_why_156 (by decide) ?_
                  cases hT
                  exact W.iret hx hb hr (fun t ht hW => mx_end Z t ht _) Z.2.2.2 dL_why_157
                · replace hT := mx_f hT h_65
                  refine lv_iload hx hb dL_why_146 (lv_at hl 0 rfl) ?_
                  refine lv_aload_n hx hb dL_why_148 rfl (lv_at hl 6 rfl) ?_
                  refine lv_aload_n hx hb dL_why_149 rfl (lv_at hl 7 rfl) ?_
                  obtain ⟨q_66, h_q_66, hT⟩ := mx_bind hT
                  refine mx_callS (As := [.int (v_57), .ref (mad E (a1)), .ref (mad E (a2))]) (rest := []) (st1 := [.int (q_66)]) X Z hl.1 (mL_passing l E hJ ha1 ha2 _ _ _ h_q_66) wd_11_16 wd_11_17 wd_10_7 wd_11_18 hdL_passing ⟨Nat.le_trans (by decide) hR.1, Nat.le_trans (by decide) hR.2⟩ ⟨Nat.zero_le _, Nat.zero_le _⟩ (Nat.le_of_ble_eq_true rfl) rfl rfl dL_why_150 (fun H locs Z => ?_)
                  refine lv_if_eq (tgt := 158) hx hb dL_why_153 (by decide) (fun h_67 => ?_) (fun h_67 => ?_)
                  · replace hT := mx_t hT h_67
                    refine lv_iconst (v := (0 : Int32)) hx hb dL_why_158 (by decide) ?_
                    refine lv_istore (lv' := [(9, .int ((0 : Int32))), (8, .int (v_57)), (7, .int ((1 : Int32))), (6, .int (v_51)), (5, .int ((1 : Int32))), (4, .int (v_1)), (0, .int (x0)), (1, .ref (mad E (a1))), (2, .ref (mad E (a2))), (3, .ref (mad E (a3)))]) hx hb dL_why_159 hl (by decide) rfl (fun ls hl => ?_)
                    refine lv_iload hx hb dL_why_161 (lv_at hl 1 rfl) ?_
                    refine lv_istore (lv' := [(10, .int (v_57)), (9, .int ((0 : Int32))), (8, .int (v_57)), (7, .int ((1 : Int32))), (6, .int (v_51)), (5, .int ((1 : Int32))), (4, .int (v_1)), (0, .int (x0)), (1, .ref (mad E (a1))), (2, .ref (mad E (a2))), (3, .ref (mad E (a3)))]) hx hb dL_why_163 hl (by decide) rfl (fun ls hl => ?_)
                    obtain ⟨q_68, h_q_68, hT⟩ := mx_bind hT
                    refine kL_why_165 X hR hJ ha1 ha2 ha3 _ _ _ _ _ _ _ _ _ _ h_q_68 Z (lv_sub (l' := [(1, .ref (mad E (a1))), (2, .ref (mad E (a2))), (3, .ref (mad E (a3))), (5, .int ((1 : Int32))), (7, .int ((1 : Int32))), (9, .int ((0 : Int32))), (10, .int (v_57))]) hl [8, 9, 10, 5, 3, 1, 0] rfl) (fun ht H locs ls Z hl => ?_) (fun ht H locs ls Z hl => ?_)
                    · replace hT := mx_t hT ht
                      refine lv_iload hx hb dL_why_246 (lv_at hl 6 rfl) ?_
                      refine lv_if_le (tgt := 279) hx hb dL_why_248 (by decide) (fun h_69 => ?_) (fun h_69 => ?_)
                      · replace hT := mx_t hT h_69
                        refine lv_iconst (v := (0 : Int32)) hx hb dL_why_279 (by decide) ?_
                        cases hT
                        exact W.iret hx hb hr (fun t ht hW => mx_end Z t ht _) Z.2.2.2 dL_why_280
                      · replace hT := mx_f hT h_69
                        refine lv_iload hx hb dL_why_251 (lv_at hl 6 rfl) ?_
                        refine lv_aload_n hx hb dL_why_253 rfl (lv_at hl 0 rfl) ?_
                        refine lv_iconst (v := (0 : Int32)) hx hb dL_why_254 (by decide) ?_
                        obtain ⟨h_70, hT⟩ := mx_chk hT
                        refine mx_iald X Z ha1 h_70 dL_why_255 ?_
                        refine mx_tops (s2 := [.int (G a1 (((0 : Int32)).toNatClampNeg)), .int (q_68.2.2)]) rfl ?_
                        refine lv_iconst (v := (1 : Int32)) hx hb dL_why_256 (by decide) ?_
                        refine lv_isub hx hb dL_why_257 ?_
                        refine lv_icmp_ge (tgt := 279) hx hb dL_why_258 (by decide) (fun h_71 => ?_) (fun h_71 => ?_)
                        · replace hT := mx_t hT h_71
                          refine lv_iconst (v := (0 : Int32)) hx hb dL_why_279 (by decide) ?_
                          cases hT
                          exact W.iret hx hb hr (fun t ht hW => mx_end Z t ht _) Z.2.2.2 dL_why_280
                        · replace hT := mx_f hT h_71
                          refine lv_iload hx hb dL_why_261 (lv_at hl 6 rfl) ?_
                          refine lv_aload_n hx hb dL_why_263 rfl (lv_at hl 0 rfl) ?_
                          refine lv_aload_n hx hb dL_why_264 rfl (lv_at hl 2 rfl) ?_
                          obtain ⟨q_72, h_q_72, hT⟩ := mx_bind hT
                          refine mx_callS (As := [.int (q_68.2.2), .ref (mad E (a1)), .ref (mad E (a3))]) (rest := []) (st1 := [.int (q_72)]) X Z hl.1 (mL_many l E hJ ha1 ha3 _ _ _ h_q_72) wd_11_19 wd_11_20 wd_10_7 wd_11_21 hdL_many ⟨Nat.le_trans (by decide) hR.1, Nat.le_trans (by decide) hR.2⟩ ⟨Nat.zero_le _, Nat.zero_le _⟩ (Nat.le_of_ble_eq_true rfl) rfl rfl dL_why_265 (fun H locs Z => ?_)
                          refine lv_iload hx hb dL_why_268 (lv_at hl 5 rfl) ?_
                          refine lv_iadd hx hb dL_why_270 ?_
                          refine lv_iconst (v := (2 : Int32)) hx hb dL_why_271 (by decide) ?_
                          refine lv_icmp_lt (tgt := 279) hx hb dL_why_272 (by decide) (fun h_73 => ?_) (fun h_73 => ?_)
                          · replace hT := mx_t hT h_73
                            refine lv_iconst (v := (0 : Int32)) hx hb dL_why_279 (by decide) ?_
                            cases hT
                            exact W.iret hx hb hr (fun t ht hW => mx_end Z t ht _) Z.2.2.2 dL_why_280
                          · replace hT := mx_f hT h_73
                            refine lv_iconst (v := (5 : Int32)) hx hb dL_why_275 (by decide) ?_
                            refine lv_goto (tgt := 280) hx hb dL_why_276 (by decide) ?_
                            cases hT
                            exact W.iret hx hb hr (fun t ht hW => mx_end Z t ht _) Z.2.2.2 dL_why_280
                    · replace hT := mx_f hT (by rw [ht]; decide)
                      refine lv_iconst (v := (4 : Int32)) hx hb dL_why_217 (by decide) ?_
                      cases hT
                      exact W.iret hx hb hr (fun t ht hW => mx_end Z t ht _) Z.2.2.2 dL_why_218
                  · replace hT := mx_f hT h_67
                    refine lv_iconst (v := (0 : Int32)) hx hb dL_why_156 (by decide) ?_
                    cases hT
                    exact W.iret hx hb hr (fun t ht hW => mx_end Z t ht _) Z.2.2.2 dL_why_157
              · replace hT := mx_f hT h_63
                refine lv_iconst (v := (3 : Int32)) hx hb dL_why_134 (by decide) ?_
                cases hT
                exact W.iret hx hb hr (fun t ht hW => mx_end Z t ht _) Z.2.2.2 dL_why_135
            · replace hT := mx_f hT h_60
              refine lv_iconst (v := (2 : Int32)) hx hb dL_why_115 (by decide) ?_
              cases hT
              exact W.iret hx hb hr (fun t ht hW => mx_end Z t ht _) Z.2.2.2 dL_why_116
        · exact absurd h_55 (by decide)
      · replace hT := mx_t hT h_54
        refine lv_iconst (v := (0 : Int32)) hx hb dL_why_46 (by decide) ?_
        cases hT
        exact W.iret hx hb hr (fun t ht hW => mx_end Z t ht _) Z.2.2.2 dL_why_47
/-! PeatRailwayLaw.turn -/
def xL_turn (x0 : Int32) (a1 : Nat) (n1 : Nat) (a2 : Nat) (n2 : Nat) (a3 : Nat) (n3 : Nat) (G : mM) : Option mM :=
  mNm (((10 : Int32)) * x0) fun v_1 =>
  mCk (mIn (v_1 + ((5 : Int32))) n3) <|
  if (G a3 ((v_1 + ((5 : Int32))).toNatClampNeg)) ≤ 0 then
    (xL_why x0 a1 n1 a2 n2 a3 n3 G).bind fun q_4 =>
    mCk (mIn (v_1 + ((6 : Int32))) n3) <|
    mNm (up2 G a3 ((v_1 + ((6 : Int32))).toNatClampNeg) q_4) fun G_6 =>
    if q_4 ≤ 0 then
      mCk (mIn (v_1 + ((4 : Int32))) n3) <|
      if (G_6 a3 ((v_1 + ((4 : Int32))).toNatClampNeg)) = ((1 : Int32)) then
        mCk (mIn (v_1 + ((3 : Int32))) n3) <|
        mCk (mIn ((0 : Int32)) n1) <|
        if (G_6 a3 ((v_1 + ((3 : Int32))).toNatClampNeg)) = ((G_6 a1 (((0 : Int32)).toNatClampNeg)) - ((1 : Int32))) then
          mCk (mIn ((7 : Int32)) n1) <|
          mCk (mIn (v_1 + ((2 : Int32))) n3) <|
          mCk (mIn ((7 : Int32)) n1) <|
          mNm (up2 G_6 a1 (((7 : Int32)).toNatClampNeg) ((G_6 a1 (((7 : Int32)).toNatClampNeg)) + (G_6 a3 ((v_1 + ((2 : Int32))).toNatClampNeg)))) fun G_59 =>
          mCk (mIn (v_1 + ((8 : Int32))) n3) <|
          mCk (mIn (v_1 + ((8 : Int32))) n3) <|
          mNm (up2 G_59 a3 ((v_1 + ((8 : Int32))).toNatClampNeg) ((G_59 a3 ((v_1 + ((8 : Int32))).toNatClampNeg)) + ((1 : Int32)))) fun G_63 =>
          mCk (mIn (v_1 + ((2 : Int32))) n3) <|
          mNm (up2 G_63 a3 ((v_1 + ((2 : Int32))).toNatClampNeg) ((0 : Int32))) fun G_66 =>
          mCk (mIn ((6 : Int32)) n1) <|
          mCk (mIn (v_1 + ((2 : Int32))) n3) <|
          mCk (mIn ((6 : Int32)) n1) <|
          mNm (up2 G_66 a1 (((6 : Int32)).toNatClampNeg) ((G_66 a1 (((6 : Int32)).toNatClampNeg)) - (G_66 a3 ((v_1 + ((2 : Int32))).toNatClampNeg)))) fun G_70 =>
          mCk (mIn (v_1 + ((4 : Int32))) n3) <|
          mNm (up2 G_70 a3 ((v_1 + ((4 : Int32))).toNatClampNeg) ((0 : Int32))) fun G_73 =>
          mCk (mIn v_1 n3) <|
          mCk (mIn (v_1 + ((5 : Int32))) n3) <|
          mNm (up2 G_73 a3 ((v_1 + ((5 : Int32))).toNatClampNeg) (G_73 a3 v_1.toNatClampNeg)) fun G_76 =>
          some (G_76)
        else
          mCk (mIn (v_1 + ((3 : Int32))) n3) <|
          mCk (mIn (v_1 + ((3 : Int32))) n3) <|
          mNm (up2 G_6 a3 ((v_1 + ((3 : Int32))).toNatClampNeg) ((G_6 a3 ((v_1 + ((3 : Int32))).toNatClampNeg)) + ((1 : Int32)))) fun G_51 =>
          mCk (mIn (v_1 + ((3 : Int32))) n3) <|
          mCk (mIn ((((3 : Int32)) * (G_51 a3 ((v_1 + ((3 : Int32))).toNatClampNeg))) + ((2 : Int32))) n2) <|
          mCk (mIn (v_1 + ((5 : Int32))) n3) <|
          mNm (up2 G_51 a3 ((v_1 + ((5 : Int32))).toNatClampNeg) (((1 : Int32)) + ((G_51 a2 (((((3 : Int32)) * (G_51 a3 ((v_1 + ((3 : Int32))).toNatClampNeg))) + ((2 : Int32))).toNatClampNeg)) / ((100 : Int32))))) fun G_55 =>
          some (G_55)
      else
        mCk (mIn (v_1 + ((3 : Int32))) n3) <|
        if (G_6 a3 ((v_1 + ((3 : Int32))).toNatClampNeg)) = ((0 : Int32)) then
          mCk (mIn ((7 : Int32)) n1) <|
          mCk (mIn (v_1 + ((2 : Int32))) n3) <|
          mCk (mIn ((7 : Int32)) n1) <|
          mNm (up2 G_6 a1 (((7 : Int32)).toNatClampNeg) ((G_6 a1 (((7 : Int32)).toNatClampNeg)) + (G_6 a3 ((v_1 + ((2 : Int32))).toNatClampNeg)))) fun G_24 =>
          mCk (mIn (v_1 + ((8 : Int32))) n3) <|
          mCk (mIn (v_1 + ((8 : Int32))) n3) <|
          mNm (up2 G_24 a3 ((v_1 + ((8 : Int32))).toNatClampNeg) ((G_24 a3 ((v_1 + ((8 : Int32))).toNatClampNeg)) + ((0 : Int32)))) fun G_28 =>
          mCk (mIn v_1 n3) <|
          mCk (mIn (v_1 + ((1 : Int32))) n3) <|
          mCk (mIn (v_1 + ((2 : Int32))) n3) <|
          mNm (up2 G_28 a3 ((v_1 + ((2 : Int32))).toNatClampNeg) ((G_28 a3 v_1.toNatClampNeg) * (G_28 a3 ((v_1 + ((1 : Int32))).toNatClampNeg)))) fun G_33 =>
          mCk (mIn ((6 : Int32)) n1) <|
          mCk (mIn (v_1 + ((2 : Int32))) n3) <|
          mCk (mIn ((6 : Int32)) n1) <|
          mNm (up2 G_33 a1 (((6 : Int32)).toNatClampNeg) ((G_33 a1 (((6 : Int32)).toNatClampNeg)) - (G_33 a3 ((v_1 + ((2 : Int32))).toNatClampNeg)))) fun G_37 =>
          mCk (mIn (v_1 + ((4 : Int32))) n3) <|
          mNm (up2 G_37 a3 ((v_1 + ((4 : Int32))).toNatClampNeg) ((1 : Int32))) fun G_40 =>
          mCk (mIn v_1 n3) <|
          mCk (mIn (v_1 + ((5 : Int32))) n3) <|
          mNm (up2 G_40 a3 ((v_1 + ((5 : Int32))).toNatClampNeg) (G_40 a3 v_1.toNatClampNeg)) fun G_43 =>
          some (G_43)
        else
          mCk (mIn (v_1 + ((3 : Int32))) n3) <|
          mCk (mIn (v_1 + ((3 : Int32))) n3) <|
          mNm (up2 G_6 a3 ((v_1 + ((3 : Int32))).toNatClampNeg) ((G_6 a3 ((v_1 + ((3 : Int32))).toNatClampNeg)) + ((-1 : Int32)))) fun G_16 =>
          mCk (mIn (v_1 + ((3 : Int32))) n3) <|
          mCk (mIn ((((3 : Int32)) * (G_16 a3 ((v_1 + ((3 : Int32))).toNatClampNeg))) + ((2 : Int32))) n2) <|
          mCk (mIn (v_1 + ((5 : Int32))) n3) <|
          mNm (up2 G_16 a3 ((v_1 + ((5 : Int32))).toNatClampNeg) (((1 : Int32)) + ((G_16 a2 (((((3 : Int32)) * (G_16 a3 ((v_1 + ((3 : Int32))).toNatClampNeg))) + ((2 : Int32))).toNatClampNeg)) / ((100 : Int32))))) fun G_20 =>
          some (G_20)
    else
      mCk (mIn (v_1 + ((7 : Int32))) n3) <|
      mCk (mIn (v_1 + ((7 : Int32))) n3) <|
      mNm (up2 G_6 a3 ((v_1 + ((7 : Int32))).toNatClampNeg) ((G_6 a3 ((v_1 + ((7 : Int32))).toNatClampNeg)) + ((1 : Int32)))) fun G_79 =>
      some (G_79)
  else
    mCk (mIn (v_1 + ((5 : Int32))) n3) <|
    mCk (mIn (v_1 + ((5 : Int32))) n3) <|
    mNm (up2 G a3 ((v_1 + ((5 : Int32))).toNatClampNeg) ((G a3 ((v_1 + ((5 : Int32))).toNatClampNeg)) - ((1 : Int32)))) fun G_82 =>
    mCk (mIn (v_1 + ((6 : Int32))) n3) <|
    mNm (up2 G_82 a3 ((v_1 + ((6 : Int32))).toNatClampNeg) ((0 : Int32))) fun G_84 =>
    some (G_84)
theorem hdL_turn : yL_turn.cls ≠ "java/lang/invoke/MethodHandle" ∧ yL_turn.cls ≠ "java/lang/invoke/VarHandle" ∧ (parseMethodDescriptor yL_turn.desc).map (fun d => d.parameters.length) = some 4 := by decide +kernel
set_option maxHeartbeats 4000000 in
set_option maxRecDepth 100000 in
theorem mL_turn (l : Launch) (E : mE) (hJ : mJ E) {a1 : Nat} {n1 : Nat} {a2 : Nat} {n2 : Nat} {a3 : Nat} {n3 : Nat} (ha1 : mAi E a1 1 n1) (ha2 : mAi E a2 1 n2) (ha3 : mAi E a3 1 n3) (x0 : Int32) (G : mM) (q : mM) (hT : xL_turn x0 a1 n1 a2 n2 a3 n3 G = some q) : mMet l E yL_turn cL_turn 7 none 4 99 [.int (x0), .ref (mad E (a1)), .ref (mad E (a2)), .ref (mad E (a3))] G (none) q := by
  refine Met.ofW (cc := cL_turn) (maxL := 7) (ret := none) (by decide) rfl ?_
  intro p e s m args below meth cd s₁ B hml hv
  obtain ⟨rfl, hP, hK, hS⟩ := hv
  have X := mx_entry (own := RL) B hml hK hJ hS rfl
  have hx := X.1
  have hb := X.2.1
  have hown := X.2.2.2.1
  have hts := X.2.2.2.2.1
  have hr := B.returns
  have hlocks := B.notSynchronized
  have hR : 4 ≤ (headSpec (mWs yL_turn cL_turn 7 none) ({ frames := 4, cells := 0, slots := 0, locals := 99 })).room.frames ∧ 99 ≤ (headSpec (mWs yL_turn cL_turn 7 none) ({ frames := 4, cells := 0, slots := 0, locals := 99 })).room.locals := ⟨Nat.le_refl _, Nat.le_refl _⟩
  have Z : mZ E s.heap s.heap [] G := ⟨hP, va_S.rf⟩
  have hl := lv_entry ([.int (x0), .ref (mad E (a1)), .ref (mad E (a2)), .ref (mad E (a3))]) (n := 7) (Nat.le_of_ble_eq_true rfl)
  rw [lg_entry_eq]
  generalize (lg_sl ([.int (x0), .ref (mad E (a1)), .ref (mad E (a2)), .ref (mad E (a3))]) ++ List.replicate (7 - (lg_sl ([.int (x0), .ref (mad E (a1)), .ref (mad E (a2)), .ref (mad E (a3))])).length) Slot.unset).toArray = ls at hl ⊢
  have hl : lv_has ls 7 [(0, .int (x0)), (1, .ref (mad E (a1))), (2, .ref (mad E (a2))), (3, .ref (mad E (a3)))] := hl
  unfold xL_turn at hT
  refine lv_bipush (v := (10 : Int32)) hx hb dL_turn_0 (by decide) ?_
  refine lv_iload_n hx hb dL_turn_2 rfl (lv_at hl 0 rfl) ?_
  refine lv_imul hx hb dL_turn_3 ?_
  obtain ⟨v_1, e_v_1, hT⟩ := mx_nm hT
  refine mx_tops (congrArg (fun z => (.int (z) :: [] : List Value)) e_v_1) ?_
  refine lv_istore (lv' := [(4, .int (v_1)), (0, .int (x0)), (1, .ref (mad E (a1))), (2, .ref (mad E (a2))), (3, .ref (mad E (a3)))]) hx hb dL_turn_4 hl (by decide) rfl (fun ls hl => ?_)
  refine lv_aload_n hx hb dL_turn_6 rfl (lv_at hl 4 rfl) ?_
  refine lv_iload hx hb dL_turn_7 (lv_at hl 0 rfl) ?_
  refine lv_iconst (v := (5 : Int32)) hx hb dL_turn_9 (by decide) ?_
  refine lv_iadd hx hb dL_turn_10 ?_
  obtain ⟨h_2, hT⟩ := mx_chk hT
  refine mx_iald X Z ha3 h_2 dL_turn_11 ?_
  refine lv_if_le (tgt := 34) hx hb dL_turn_12 (by decide) (fun h_3 => ?_) (fun h_3 => ?_)
  · replace hT := mx_t hT h_3
    refine lv_iload_n hx hb dL_turn_34 rfl (lv_at hl 1 rfl) ?_
    refine lv_aload_n hx hb dL_turn_35 rfl (lv_at hl 2 rfl) ?_
    refine lv_aload_n hx hb dL_turn_36 rfl (lv_at hl 3 rfl) ?_
    refine lv_aload_n hx hb dL_turn_37 rfl (lv_at hl 4 rfl) ?_
    obtain ⟨q_4, h_q_4, hT⟩ := mx_bind hT
    refine mx_callS (As := [.int (x0), .ref (mad E (a1)), .ref (mad E (a2)), .ref (mad E (a3))]) (rest := []) (st1 := [.int (q_4)]) X Z hl.1 (mL_why l E hJ ha1 ha2 ha3 _ _ _ h_q_4) wd_14_8 wd_14_9 wd_10_7 wd_14_10 hdL_why ⟨Nat.le_trans (by decide) hR.1, Nat.le_trans (by decide) hR.2⟩ ⟨Nat.zero_le _, Nat.zero_le _⟩ (Nat.le_of_ble_eq_true rfl) rfl rfl dL_turn_38 (fun H locs Z => ?_)
    refine lv_istore (lv' := [(5, .int (q_4)), (4, .int (v_1)), (0, .int (x0)), (1, .ref (mad E (a1))), (2, .ref (mad E (a2))), (3, .ref (mad E (a3)))]) hx hb dL_turn_41 hl (by decide) rfl (fun ls hl => ?_)
    refine lv_aload_n hx hb dL_turn_43 rfl (lv_at hl 5 rfl) ?_
    refine lv_iload hx hb dL_turn_44 (lv_at hl 1 rfl) ?_
    refine lv_bipush (v := (6 : Int32)) hx hb dL_turn_46 (by decide) ?_
    refine lv_iadd hx hb dL_turn_48 ?_
    refine lv_iload hx hb dL_turn_49 (lv_at hl 0 rfl) ?_
    obtain ⟨h_5, hT⟩ := mx_chk hT
    obtain ⟨G_6, e_G_6, hT⟩ := mx_nm hT
    refine mx_iast X Z ha3 h_5 dL_turn_51 (fun H locs Z => ?_)
    rw [e_G_6] at Z
    refine lv_iload hx hb dL_turn_52 (lv_at hl 0 rfl) ?_
    refine lv_if_le (tgt := 69) hx hb dL_turn_54 (by decide) (fun h_7 => ?_) (fun h_7 => ?_)
    · replace hT := mx_t hT h_7
      refine lv_aload_n hx hb dL_turn_69 rfl (lv_at hl 5 rfl) ?_
      refine lv_iload hx hb dL_turn_70 (lv_at hl 1 rfl) ?_
      refine lv_iconst (v := (4 : Int32)) hx hb dL_turn_72 (by decide) ?_
      refine lv_iadd hx hb dL_turn_73 ?_
      obtain ⟨h_8, hT⟩ := mx_chk hT
      refine mx_iald X Z ha3 h_8 dL_turn_74 ?_
      refine lv_iconst (v := (1 : Int32)) hx hb dL_turn_75 (by decide) ?_
      refine lv_icmp_ne (tgt := 83) hx hb dL_turn_76 (by decide) (fun h_9 => ?_) (fun h_9 => ?_)
      · replace hT := mx_f hT h_9
        refine lv_iconst (v := (0 : Int32)) hx hb dL_turn_83 (by decide) ?_
        refine lv_istore (lv' := [(6, .int ((0 : Int32))), (5, .int (q_4)), (4, .int (v_1)), (0, .int (x0)), (1, .ref (mad E (a1))), (2, .ref (mad E (a2))), (3, .ref (mad E (a3)))]) hx hb dL_turn_84 hl (by decide) rfl (fun ls hl => ?_)
        refine lv_aload_n hx hb dL_turn_86 rfl (lv_at hl 6 rfl) ?_
        refine lv_iload hx hb dL_turn_87 (lv_at hl 2 rfl) ?_
        refine lv_iconst (v := (3 : Int32)) hx hb dL_turn_89 (by decide) ?_
        refine lv_iadd hx hb dL_turn_90 ?_
        obtain ⟨h_10, hT⟩ := mx_chk hT
        refine mx_iald X Z ha3 h_10 dL_turn_91 ?_
        refine lv_iload hx hb dL_turn_92 (lv_at hl 0 rfl) ?_
        refine lv_if_eq (tgt := 105) hx hb dL_turn_94 (by decide) (fun h_11 => ?_) (fun h_11 => ?_)
        · refine lv_iconst (v := (0 : Int32)) hx hb dL_turn_105 (by decide) ?_
          refine lv_icmp_ne (tgt := 208) hx hb dL_turn_106 (by decide) (fun h_12 => ?_) (fun h_12 => ?_)
          · replace hT := mx_f hT h_12
            refine lv_aload_n hx hb dL_turn_208 rfl (lv_at hl 6 rfl) ?_
            refine lv_iload hx hb dL_turn_209 (lv_at hl 2 rfl) ?_
            refine lv_iconst (v := (3 : Int32)) hx hb dL_turn_211 (by decide) ?_
            refine lv_iadd hx hb dL_turn_212 ?_
            refine lv_dup2_11 hx hb dL_turn_213 rfl rfl ?_
            obtain ⟨h_13, hT⟩ := mx_chk hT
            refine mx_iald X Z ha3 h_13 dL_turn_214 ?_
            refine lv_iload hx hb dL_turn_215 (lv_at hl 0 rfl) ?_
            refine lv_if_eq (tgt := 224) hx hb dL_turn_217 (by decide) (fun h_14 => ?_) (fun h_14 => ?_)
            · refine lv_iconst (v := (-1 : Int32)) hx hb dL_turn_224 (by decide) ?_
              refine lv_iadd hx hb dL_turn_225 ?_
              obtain ⟨h_15, hT⟩ := mx_chk hT
              obtain ⟨G_16, e_G_16, hT⟩ := mx_nm hT
              refine mx_iast X Z ha3 h_15 dL_turn_226 (fun H locs Z => ?_)
              rw [e_G_16] at Z
              refine lv_aload_n hx hb dL_turn_227 rfl (lv_at hl 6 rfl) ?_
              refine lv_iload hx hb dL_turn_228 (lv_at hl 2 rfl) ?_
              refine lv_iconst (v := (5 : Int32)) hx hb dL_turn_230 (by decide) ?_
              refine lv_iadd hx hb dL_turn_231 ?_
              refine lv_iconst (v := (1 : Int32)) hx hb dL_turn_232 (by decide) ?_
              refine lv_aload_n hx hb dL_turn_233 rfl (lv_at hl 5 rfl) ?_
              refine lv_iconst (v := (3 : Int32)) hx hb dL_turn_234 (by decide) ?_
              refine lv_aload_n hx hb dL_turn_235 rfl (lv_at hl 6 rfl) ?_
              refine lv_iload hx hb dL_turn_236 (lv_at hl 2 rfl) ?_
              refine lv_iconst (v := (3 : Int32)) hx hb dL_turn_238 (by decide) ?_
              refine lv_iadd hx hb dL_turn_239 ?_
              obtain ⟨h_17, hT⟩ := mx_chk hT
              refine mx_iald X Z ha3 h_17 dL_turn_240 ?_
              refine lv_imul hx hb dL_turn_241 ?_
              refine lv_iconst (v := (2 : Int32)) hx hb dL_turn_242 (by decide) ?_
              refine lv_iadd hx hb dL_turn_243 ?_
              obtain ⟨h_18, hT⟩ := mx_chk hT
              refine mx_iald X Z ha2 h_18 dL_turn_244 ?_
              refine lv_bipush (v := (100 : Int32)) hx hb dL_turn_245 (by decide) ?_
              refine lv_idiv hx hb dL_turn_247 (by decide) ?_
              refine lv_iadd hx hb dL_turn_248 ?_
              obtain ⟨h_19, hT⟩ := mx_chk hT
              obtain ⟨G_20, e_G_20, hT⟩ := mx_nm hT
              refine mx_iast X Z ha3 h_19 dL_turn_249 (fun H locs Z => ?_)
              rw [e_G_20] at Z
              cases hT
              exact W.vret hx hb hr (fun t ht hW => mx_end Z t ht _) Z.2.2.2 dL_turn_250
            · exact absurd h_14 (by decide)
          · replace hT := mx_t hT h_12
            refine lv_aload_n hx hb dL_turn_109 rfl (lv_at hl 4 rfl) ?_
            refine lv_bipush (v := (7 : Int32)) hx hb dL_turn_110 (by decide) ?_
            refine lv_dup2_11 hx hb dL_turn_112 rfl rfl ?_
            obtain ⟨h_21, hT⟩ := mx_chk hT
            refine mx_iald X Z ha1 h_21 dL_turn_113 ?_
            refine mx_tops (s2 := [.int (G_6 a1 (((7 : Int32)).toNatClampNeg)), .int ((7 : Int32)), .ref (mad E (a1))]) rfl ?_
            refine lv_aload_n hx hb dL_turn_114 rfl (lv_at hl 6 rfl) ?_
            refine lv_iload hx hb dL_turn_115 (lv_at hl 2 rfl) ?_
            refine lv_iconst (v := (2 : Int32)) hx hb dL_turn_117 (by decide) ?_
            refine lv_iadd hx hb dL_turn_118 ?_
            obtain ⟨h_22, hT⟩ := mx_chk hT
            refine mx_iald X Z ha3 h_22 dL_turn_119 ?_
            refine lv_iadd hx hb dL_turn_120 ?_
            obtain ⟨h_23, hT⟩ := mx_chk hT
            obtain ⟨G_24, e_G_24, hT⟩ := mx_nm hT
            refine mx_iast X Z ha1 h_23 dL_turn_121 (fun H locs Z => ?_)
            replace Z : mZ E s.heap H locs (up2 G_6 a1 (((7 : Int32)).toNatClampNeg) ((G_6 a1 (((7 : Int32)).toNatClampNeg)) + (G_6 a3 ((v_1 + ((2 : Int32))).toNatClampNeg)))) := Z
            rw [e_G_24] at Z
            refine lv_aload_n hx hb dL_turn_122 rfl (lv_at hl 6 rfl) ?_
            refine lv_iload hx hb dL_turn_123 (lv_at hl 2 rfl) ?_
            refine lv_bipush (v := (8 : Int32)) hx hb dL_turn_125 (by decide) ?_
            refine lv_iadd hx hb dL_turn_127 ?_
            refine lv_dup2_11 hx hb dL_turn_128 rfl rfl ?_
            obtain ⟨h_25, hT⟩ := mx_chk hT
            refine mx_iald X Z ha3 h_25 dL_turn_129 ?_
            refine lv_iload hx hb dL_turn_130 (lv_at hl 0 rfl) ?_
            refine lv_if_eq (tgt := 139) hx hb dL_turn_132 (by decide) (fun h_26 => ?_) (fun h_26 => ?_)
            · refine lv_iconst (v := (0 : Int32)) hx hb dL_turn_139 (by decide) ?_
              refine lv_iadd hx hb dL_turn_140 ?_
              obtain ⟨h_27, hT⟩ := mx_chk hT
              obtain ⟨G_28, e_G_28, hT⟩ := mx_nm hT
              refine mx_iast X Z ha3 h_27 dL_turn_141 (fun H locs Z => ?_)
              rw [e_G_28] at Z
              refine lv_aload_n hx hb dL_turn_142 rfl (lv_at hl 6 rfl) ?_
              refine lv_iload hx hb dL_turn_143 (lv_at hl 2 rfl) ?_
              refine lv_iconst (v := (2 : Int32)) hx hb dL_turn_145 (by decide) ?_
              refine lv_iadd hx hb dL_turn_146 ?_
              refine lv_iload hx hb dL_turn_147 (lv_at hl 0 rfl) ?_
              refine lv_if_eq (tgt := 156) hx hb dL_turn_149 (by decide) (fun h_29 => ?_) (fun h_29 => ?_)
              · refine lv_aload_n hx hb dL_turn_156 rfl (lv_at hl 6 rfl) ?_
                refine lv_iload hx hb dL_turn_157 (lv_at hl 2 rfl) ?_
                obtain ⟨h_30, hT⟩ := mx_chk hT
                refine mx_iald X Z ha3 h_30 dL_turn_159 ?_
                refine lv_aload_n hx hb dL_turn_160 rfl (lv_at hl 6 rfl) ?_
                refine lv_iload hx hb dL_turn_161 (lv_at hl 2 rfl) ?_
                refine lv_iconst (v := (1 : Int32)) hx hb dL_turn_163 (by decide) ?_
                refine lv_iadd hx hb dL_turn_164 ?_
                obtain ⟨h_31, hT⟩ := mx_chk hT
                refine mx_iald X Z ha3 h_31 dL_turn_165 ?_
                refine lv_imul hx hb dL_turn_166 ?_
                obtain ⟨h_32, hT⟩ := mx_chk hT
                obtain ⟨G_33, e_G_33, hT⟩ := mx_nm hT
                refine mx_iast X Z ha3 h_32 dL_turn_167 (fun H locs Z => ?_)
                rw [e_G_33] at Z
                refine lv_aload_n hx hb dL_turn_168 rfl (lv_at hl 4 rfl) ?_
                refine lv_bipush (v := (6 : Int32)) hx hb dL_turn_169 (by decide) ?_
                refine lv_dup2_11 hx hb dL_turn_171 rfl rfl ?_
                obtain ⟨h_34, hT⟩ := mx_chk hT
                refine mx_iald X Z ha1 h_34 dL_turn_172 ?_
                refine mx_tops (s2 := [.int (G_33 a1 (((6 : Int32)).toNatClampNeg)), .int ((6 : Int32)), .ref (mad E (a1))]) rfl ?_
                refine lv_aload_n hx hb dL_turn_173 rfl (lv_at hl 6 rfl) ?_
                refine lv_iload hx hb dL_turn_174 (lv_at hl 2 rfl) ?_
                refine lv_iconst (v := (2 : Int32)) hx hb dL_turn_176 (by decide) ?_
                refine lv_iadd hx hb dL_turn_177 ?_
                obtain ⟨h_35, hT⟩ := mx_chk hT
                refine mx_iald X Z ha3 h_35 dL_turn_178 ?_
                refine lv_isub hx hb dL_turn_179 ?_
                obtain ⟨h_36, hT⟩ := mx_chk hT
                obtain ⟨G_37, e_G_37, hT⟩ := mx_nm hT
                refine mx_iast X Z ha1 h_36 dL_turn_180 (fun H locs Z => ?_)
                replace Z : mZ E s.heap H locs (up2 G_33 a1 (((6 : Int32)).toNatClampNeg) ((G_33 a1 (((6 : Int32)).toNatClampNeg)) - (G_33 a3 ((v_1 + ((2 : Int32))).toNatClampNeg)))) := Z
                rw [e_G_37] at Z
                refine lv_aload_n hx hb dL_turn_181 rfl (lv_at hl 6 rfl) ?_
                refine lv_iload hx hb dL_turn_182 (lv_at hl 2 rfl) ?_
                refine lv_iconst (v := (4 : Int32)) hx hb dL_turn_184 (by decide) ?_
                refine lv_iadd hx hb dL_turn_185 ?_
                refine lv_iload hx hb dL_turn_186 (lv_at hl 0 rfl) ?_
                refine lv_if_eq (tgt := 195) hx hb dL_turn_188 (by decide) (fun h_38 => ?_) (fun h_38 => ?_)
                · refine lv_iconst (v := (1 : Int32)) hx hb dL_turn_195 (by decide) ?_
                  obtain ⟨h_39, hT⟩ := mx_chk hT
                  obtain ⟨G_40, e_G_40, hT⟩ := mx_nm hT
                  refine mx_iast X Z ha3 h_39 dL_turn_196 (fun H locs Z => ?_)
                  rw [e_G_40] at Z
                  refine lv_aload_n hx hb dL_turn_197 rfl (lv_at hl 6 rfl) ?_
                  refine lv_iload hx hb dL_turn_198 (lv_at hl 2 rfl) ?_
                  refine lv_iconst (v := (5 : Int32)) hx hb dL_turn_200 (by decide) ?_
                  refine lv_iadd hx hb dL_turn_201 ?_
                  refine lv_aload_n hx hb dL_turn_202 rfl (lv_at hl 6 rfl) ?_
                  refine lv_iload hx hb dL_turn_203 (lv_at hl 2 rfl) ?_
                  obtain ⟨h_41, hT⟩ := mx_chk hT
                  refine mx_iald X Z ha3 h_41 dL_turn_205 ?_
                  obtain ⟨h_42, hT⟩ := mx_chk hT
                  obtain ⟨G_43, e_G_43, hT⟩ := mx_nm hT
                  refine mx_iast X Z ha3 h_42 dL_turn_206 (fun H locs Z => ?_)
                  rw [e_G_43] at Z
                  cases hT
                  exact W.vret hx hb hr (fun t ht hW => mx_end Z t ht _) Z.2.2.2 dL_turn_207
                · exact absurd h_38 (by decide)
              · exact absurd h_29 (by decide)
            · exact absurd h_26 (by decide)
        · exact absurd h_11 (by decide)
      · replace hT := mx_t hT h_9
        refine lv_iconst (v := (1 : Int32)) hx hb dL_turn_79 (by decide) ?_
        refine lv_goto (tgt := 84) hx hb dL_turn_80 (by decide) ?_
        refine lv_istore (lv' := [(6, .int ((1 : Int32))), (5, .int (q_4)), (4, .int (v_1)), (0, .int (x0)), (1, .ref (mad E (a1))), (2, .ref (mad E (a2))), (3, .ref (mad E (a3)))]) hx hb dL_turn_84 hl (by decide) rfl (fun ls hl => ?_)
        refine lv_aload_n hx hb dL_turn_86 rfl (lv_at hl 6 rfl) ?_
        refine lv_iload hx hb dL_turn_87 (lv_at hl 2 rfl) ?_
        refine lv_iconst (v := (3 : Int32)) hx hb dL_turn_89 (by decide) ?_
        refine lv_iadd hx hb dL_turn_90 ?_
        obtain ⟨h_44, hT⟩ := mx_chk hT
        refine mx_iald X Z ha3 h_44 dL_turn_91 ?_
        refine lv_iload hx hb dL_turn_92 (lv_at hl 0 rfl) ?_
        refine lv_if_eq (tgt := 105) hx hb dL_turn_94 (by decide) (fun h_45 => ?_) (fun h_45 => ?_)
        · exact absurd h_45 (by decide)
        · refine lv_aload_n hx hb dL_turn_97 rfl (lv_at hl 4 rfl) ?_
          refine lv_iconst (v := (0 : Int32)) hx hb dL_turn_98 (by decide) ?_
          obtain ⟨h_46, hT⟩ := mx_chk hT
          refine mx_iald X Z ha1 h_46 dL_turn_99 ?_
          refine mx_tops (s2 := [.int (G_6 a1 (((0 : Int32)).toNatClampNeg)), .int (G_6 a3 ((v_1 + ((3 : Int32))).toNatClampNeg))]) rfl ?_
          refine lv_iconst (v := (1 : Int32)) hx hb dL_turn_100 (by decide) ?_
          refine lv_isub hx hb dL_turn_101 ?_
          refine lv_goto (tgt := 106) hx hb dL_turn_102 (by decide) ?_
          refine lv_icmp_ne (tgt := 208) hx hb dL_turn_106 (by decide) (fun h_47 => ?_) (fun h_47 => ?_)
          · replace hT := mx_f hT h_47
            refine lv_aload_n hx hb dL_turn_208 rfl (lv_at hl 6 rfl) ?_
            refine lv_iload hx hb dL_turn_209 (lv_at hl 2 rfl) ?_
            refine lv_iconst (v := (3 : Int32)) hx hb dL_turn_211 (by decide) ?_
            refine lv_iadd hx hb dL_turn_212 ?_
            refine lv_dup2_11 hx hb dL_turn_213 rfl rfl ?_
            obtain ⟨h_48, hT⟩ := mx_chk hT
            refine mx_iald X Z ha3 h_48 dL_turn_214 ?_
            refine lv_iload hx hb dL_turn_215 (lv_at hl 0 rfl) ?_
            refine lv_if_eq (tgt := 224) hx hb dL_turn_217 (by decide) (fun h_49 => ?_) (fun h_49 => ?_)
            · exact absurd h_49 (by decide)
            · refine lv_iconst (v := (1 : Int32)) hx hb dL_turn_220 (by decide) ?_
              refine lv_goto (tgt := 225) hx hb dL_turn_221 (by decide) ?_
              refine lv_iadd hx hb dL_turn_225 ?_
              obtain ⟨h_50, hT⟩ := mx_chk hT
              obtain ⟨G_51, e_G_51, hT⟩ := mx_nm hT
              refine mx_iast X Z ha3 h_50 dL_turn_226 (fun H locs Z => ?_)
              rw [e_G_51] at Z
              refine lv_aload_n hx hb dL_turn_227 rfl (lv_at hl 6 rfl) ?_
              refine lv_iload hx hb dL_turn_228 (lv_at hl 2 rfl) ?_
              refine lv_iconst (v := (5 : Int32)) hx hb dL_turn_230 (by decide) ?_
              refine lv_iadd hx hb dL_turn_231 ?_
              refine lv_iconst (v := (1 : Int32)) hx hb dL_turn_232 (by decide) ?_
              refine lv_aload_n hx hb dL_turn_233 rfl (lv_at hl 5 rfl) ?_
              refine lv_iconst (v := (3 : Int32)) hx hb dL_turn_234 (by decide) ?_
              refine lv_aload_n hx hb dL_turn_235 rfl (lv_at hl 6 rfl) ?_
              refine lv_iload hx hb dL_turn_236 (lv_at hl 2 rfl) ?_
              refine lv_iconst (v := (3 : Int32)) hx hb dL_turn_238 (by decide) ?_
              refine lv_iadd hx hb dL_turn_239 ?_
              obtain ⟨h_52, hT⟩ := mx_chk hT
              refine mx_iald X Z ha3 h_52 dL_turn_240 ?_
              refine lv_imul hx hb dL_turn_241 ?_
              refine lv_iconst (v := (2 : Int32)) hx hb dL_turn_242 (by decide) ?_
              refine lv_iadd hx hb dL_turn_243 ?_
              obtain ⟨h_53, hT⟩ := mx_chk hT
              refine mx_iald X Z ha2 h_53 dL_turn_244 ?_
              refine lv_bipush (v := (100 : Int32)) hx hb dL_turn_245 (by decide) ?_
              refine lv_idiv hx hb dL_turn_247 (by decide) ?_
              refine lv_iadd hx hb dL_turn_248 ?_
              obtain ⟨h_54, hT⟩ := mx_chk hT
              obtain ⟨G_55, e_G_55, hT⟩ := mx_nm hT
              refine mx_iast X Z ha3 h_54 dL_turn_249 (fun H locs Z => ?_)
              rw [e_G_55] at Z
              cases hT
              exact W.vret hx hb hr (fun t ht hW => mx_end Z t ht _) Z.2.2.2 dL_turn_250
          · replace hT := mx_t hT h_47
            refine lv_aload_n hx hb dL_turn_109 rfl (lv_at hl 4 rfl) ?_
            refine lv_bipush (v := (7 : Int32)) hx hb dL_turn_110 (by decide) ?_
            refine lv_dup2_11 hx hb dL_turn_112 rfl rfl ?_
            obtain ⟨h_56, hT⟩ := mx_chk hT
            refine mx_iald X Z ha1 h_56 dL_turn_113 ?_
            refine mx_tops (s2 := [.int (G_6 a1 (((7 : Int32)).toNatClampNeg)), .int ((7 : Int32)), .ref (mad E (a1))]) rfl ?_
            refine lv_aload_n hx hb dL_turn_114 rfl (lv_at hl 6 rfl) ?_
            refine lv_iload hx hb dL_turn_115 (lv_at hl 2 rfl) ?_
            refine lv_iconst (v := (2 : Int32)) hx hb dL_turn_117 (by decide) ?_
            refine lv_iadd hx hb dL_turn_118 ?_
            obtain ⟨h_57, hT⟩ := mx_chk hT
            refine mx_iald X Z ha3 h_57 dL_turn_119 ?_
            refine lv_iadd hx hb dL_turn_120 ?_
            obtain ⟨h_58, hT⟩ := mx_chk hT
            obtain ⟨G_59, e_G_59, hT⟩ := mx_nm hT
            refine mx_iast X Z ha1 h_58 dL_turn_121 (fun H locs Z => ?_)
            replace Z : mZ E s.heap H locs (up2 G_6 a1 (((7 : Int32)).toNatClampNeg) ((G_6 a1 (((7 : Int32)).toNatClampNeg)) + (G_6 a3 ((v_1 + ((2 : Int32))).toNatClampNeg)))) := Z
            rw [e_G_59] at Z
            refine lv_aload_n hx hb dL_turn_122 rfl (lv_at hl 6 rfl) ?_
            refine lv_iload hx hb dL_turn_123 (lv_at hl 2 rfl) ?_
            refine lv_bipush (v := (8 : Int32)) hx hb dL_turn_125 (by decide) ?_
            refine lv_iadd hx hb dL_turn_127 ?_
            refine lv_dup2_11 hx hb dL_turn_128 rfl rfl ?_
            obtain ⟨h_60, hT⟩ := mx_chk hT
            refine mx_iald X Z ha3 h_60 dL_turn_129 ?_
            refine lv_iload hx hb dL_turn_130 (lv_at hl 0 rfl) ?_
            refine lv_if_eq (tgt := 139) hx hb dL_turn_132 (by decide) (fun h_61 => ?_) (fun h_61 => ?_)
            · exact absurd h_61 (by decide)
            · refine lv_iconst (v := (1 : Int32)) hx hb dL_turn_135 (by decide) ?_
              refine lv_goto (tgt := 140) hx hb dL_turn_136 (by decide) ?_
              refine lv_iadd hx hb dL_turn_140 ?_
              obtain ⟨h_62, hT⟩ := mx_chk hT
              obtain ⟨G_63, e_G_63, hT⟩ := mx_nm hT
              refine mx_iast X Z ha3 h_62 dL_turn_141 (fun H locs Z => ?_)
              rw [e_G_63] at Z
              refine lv_aload_n hx hb dL_turn_142 rfl (lv_at hl 6 rfl) ?_
              refine lv_iload hx hb dL_turn_143 (lv_at hl 2 rfl) ?_
              refine lv_iconst (v := (2 : Int32)) hx hb dL_turn_145 (by decide) ?_
              refine lv_iadd hx hb dL_turn_146 ?_
              refine lv_iload hx hb dL_turn_147 (lv_at hl 0 rfl) ?_
              refine lv_if_eq (tgt := 156) hx hb dL_turn_149 (by decide) (fun h_64 => ?_) (fun h_64 => ?_)
              · exact absurd h_64 (by decide)
              · refine lv_iconst (v := (0 : Int32)) hx hb dL_turn_152 (by decide) ?_
                refine lv_goto (tgt := 167) hx hb dL_turn_153 (by decide) ?_
                obtain ⟨h_65, hT⟩ := mx_chk hT
                obtain ⟨G_66, e_G_66, hT⟩ := mx_nm hT
                refine mx_iast X Z ha3 h_65 dL_turn_167 (fun H locs Z => ?_)
                rw [e_G_66] at Z
                refine lv_aload_n hx hb dL_turn_168 rfl (lv_at hl 4 rfl) ?_
                refine lv_bipush (v := (6 : Int32)) hx hb dL_turn_169 (by decide) ?_
                refine lv_dup2_11 hx hb dL_turn_171 rfl rfl ?_
                obtain ⟨h_67, hT⟩ := mx_chk hT
                refine mx_iald X Z ha1 h_67 dL_turn_172 ?_
                refine mx_tops (s2 := [.int (G_66 a1 (((6 : Int32)).toNatClampNeg)), .int ((6 : Int32)), .ref (mad E (a1))]) rfl ?_
                refine lv_aload_n hx hb dL_turn_173 rfl (lv_at hl 6 rfl) ?_
                refine lv_iload hx hb dL_turn_174 (lv_at hl 2 rfl) ?_
                refine lv_iconst (v := (2 : Int32)) hx hb dL_turn_176 (by decide) ?_
                refine lv_iadd hx hb dL_turn_177 ?_
                obtain ⟨h_68, hT⟩ := mx_chk hT
                refine mx_iald X Z ha3 h_68 dL_turn_178 ?_
                refine lv_isub hx hb dL_turn_179 ?_
                obtain ⟨h_69, hT⟩ := mx_chk hT
                obtain ⟨G_70, e_G_70, hT⟩ := mx_nm hT
                refine mx_iast X Z ha1 h_69 dL_turn_180 (fun H locs Z => ?_)
                replace Z : mZ E s.heap H locs (up2 G_66 a1 (((6 : Int32)).toNatClampNeg) ((G_66 a1 (((6 : Int32)).toNatClampNeg)) - (G_66 a3 ((v_1 + ((2 : Int32))).toNatClampNeg)))) := Z
                rw [e_G_70] at Z
                refine lv_aload_n hx hb dL_turn_181 rfl (lv_at hl 6 rfl) ?_
                refine lv_iload hx hb dL_turn_182 (lv_at hl 2 rfl) ?_
                refine lv_iconst (v := (4 : Int32)) hx hb dL_turn_184 (by decide) ?_
                refine lv_iadd hx hb dL_turn_185 ?_
                refine lv_iload hx hb dL_turn_186 (lv_at hl 0 rfl) ?_
                refine lv_if_eq (tgt := 195) hx hb dL_turn_188 (by decide) (fun h_71 => ?_) (fun h_71 => ?_)
                · exact absurd h_71 (by decide)
                · refine lv_iconst (v := (0 : Int32)) hx hb dL_turn_191 (by decide) ?_
                  refine lv_goto (tgt := 196) hx hb dL_turn_192 (by decide) ?_
                  obtain ⟨h_72, hT⟩ := mx_chk hT
                  obtain ⟨G_73, e_G_73, hT⟩ := mx_nm hT
                  refine mx_iast X Z ha3 h_72 dL_turn_196 (fun H locs Z => ?_)
                  rw [e_G_73] at Z
                  refine lv_aload_n hx hb dL_turn_197 rfl (lv_at hl 6 rfl) ?_
                  refine lv_iload hx hb dL_turn_198 (lv_at hl 2 rfl) ?_
                  refine lv_iconst (v := (5 : Int32)) hx hb dL_turn_200 (by decide) ?_
                  refine lv_iadd hx hb dL_turn_201 ?_
                  refine lv_aload_n hx hb dL_turn_202 rfl (lv_at hl 6 rfl) ?_
                  refine lv_iload hx hb dL_turn_203 (lv_at hl 2 rfl) ?_
                  obtain ⟨h_74, hT⟩ := mx_chk hT
                  refine mx_iald X Z ha3 h_74 dL_turn_205 ?_
                  obtain ⟨h_75, hT⟩ := mx_chk hT
                  obtain ⟨G_76, e_G_76, hT⟩ := mx_nm hT
                  refine mx_iast X Z ha3 h_75 dL_turn_206 (fun H locs Z => ?_)
                  rw [e_G_76] at Z
                  cases hT
                  exact W.vret hx hb hr (fun t ht hW => mx_end Z t ht _) Z.2.2.2 dL_turn_207
    · replace hT := mx_f hT h_7
      refine lv_aload_n hx hb dL_turn_57 rfl (lv_at hl 5 rfl) ?_
      refine lv_iload hx hb dL_turn_58 (lv_at hl 1 rfl) ?_
      refine lv_bipush (v := (7 : Int32)) hx hb dL_turn_60 (by decide) ?_
      refine lv_iadd hx hb dL_turn_62 ?_
      refine lv_dup2_11 hx hb dL_turn_63 rfl rfl ?_
      obtain ⟨h_77, hT⟩ := mx_chk hT
      refine mx_iald X Z ha3 h_77 dL_turn_64 ?_
      refine lv_iconst (v := (1 : Int32)) hx hb dL_turn_65 (by decide) ?_
      refine lv_iadd hx hb dL_turn_66 ?_
      obtain ⟨h_78, hT⟩ := mx_chk hT
      obtain ⟨G_79, e_G_79, hT⟩ := mx_nm hT
      refine mx_iast X Z ha3 h_78 dL_turn_67 (fun H locs Z => ?_)
      rw [e_G_79] at Z
      cases hT
      exact W.vret hx hb hr (fun t ht hW => mx_end Z t ht _) Z.2.2.2 dL_turn_68
  · replace hT := mx_f hT h_3
    refine lv_aload_n hx hb dL_turn_15 rfl (lv_at hl 4 rfl) ?_
    refine lv_iload hx hb dL_turn_16 (lv_at hl 0 rfl) ?_
    refine lv_iconst (v := (5 : Int32)) hx hb dL_turn_18 (by decide) ?_
    refine lv_iadd hx hb dL_turn_19 ?_
    refine lv_dup2_11 hx hb dL_turn_20 rfl rfl ?_
    obtain ⟨h_80, hT⟩ := mx_chk hT
    refine mx_iald X Z ha3 h_80 dL_turn_21 ?_
    refine lv_iconst (v := (1 : Int32)) hx hb dL_turn_22 (by decide) ?_
    refine lv_isub hx hb dL_turn_23 ?_
    obtain ⟨h_81, hT⟩ := mx_chk hT
    obtain ⟨G_82, e_G_82, hT⟩ := mx_nm hT
    refine mx_iast X Z ha3 h_81 dL_turn_24 (fun H locs Z => ?_)
    rw [e_G_82] at Z
    refine lv_aload_n hx hb dL_turn_25 rfl (lv_at hl 4 rfl) ?_
    refine lv_iload hx hb dL_turn_26 (lv_at hl 0 rfl) ?_
    refine lv_bipush (v := (6 : Int32)) hx hb dL_turn_28 (by decide) ?_
    refine lv_iadd hx hb dL_turn_30 ?_
    refine lv_iconst (v := (0 : Int32)) hx hb dL_turn_31 (by decide) ?_
    obtain ⟨h_83, hT⟩ := mx_chk hT
    obtain ⟨G_84, e_G_84, hT⟩ := mx_nm hT
    refine mx_iast X Z ha3 h_83 dL_turn_32 (fun H locs Z => ?_)
    rw [e_G_84] at Z
    cases hT
    exact W.vret hx hb hr (fun t ht hW => mx_end Z t ht _) Z.2.2.2 dL_turn_33
