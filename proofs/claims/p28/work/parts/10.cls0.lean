/-! PeatRailway$InputText.isFull -/
def x1_isFull (G : mM) : Option Int32 :=
  if (G 241 1) < ((40 : Int32)) then
    some ((0 : Int32))
  else
    some ((1 : Int32))
theorem hd1_isFull : yX1_isFull.cls = RX1 ∧ yX1_isFull.cls ≠ "java/lang/invoke/MethodHandle" ∧ yX1_isFull.cls ≠ "java/lang/invoke/VarHandle" ∧ (parseMethodDescriptor yX1_isFull.desc).map (fun d => d.parameters.length) = some 0 := by decide +kernel
set_option maxHeartbeats 4000000 in
set_option maxRecDepth 100000 in
theorem c1_isFull (l : Launch) (E : mE) (hJ : mJ E) (hc : mTx E 241) (G : mM) (q : Int32) (hT : x1_isFull G = some q) : mMet l E yX1_isFull cX1_isFull 1 (some .boolean) 0 0 [.ref (mad E (241))] G (some (.int q)) G := by
  refine Met.ofW (cc := cX1_isFull) (maxL := 1) (ret := (some .boolean)) (by decide) rfl ?_
  intro p e s m args below meth cd s₁ B hml hv
  obtain ⟨rfl, hP, hK, hS⟩ := hv
  have X := mx_entry (own := RX1) B hml hK hJ hS rfl
  have hx := X.1
  have hb := X.2.1
  have hown := X.2.2.2.1
  have hts := X.2.2.2.2.1
  have hr := B.returns
  have hlocks := B.notSynchronized
  have hR : 0 ≤ (headSpec (mWs yX1_isFull cX1_isFull 1 (some .boolean)) ({ frames := 0, cells := 0, slots := 0, locals := 0 })).room.frames ∧ 0 ≤ (headSpec (mWs yX1_isFull cX1_isFull 1 (some .boolean)) ({ frames := 0, cells := 0, slots := 0, locals := 0 })).room.locals := ⟨Nat.le_refl _, Nat.le_refl _⟩
  have Z : mZ E s.heap s.heap [] G := ⟨hP, va_S.rf⟩
  have hl := lv_entry ([.ref (mad E (241))]) (n := 1) (Nat.le_of_ble_eq_true rfl)
  rw [lg_entry_eq]
  generalize (lg_sl ([.ref (mad E (241))]) ++ List.replicate (1 - (lg_sl ([.ref (mad E (241))])).length) Slot.unset).toArray = ls at hl ⊢
  have hl : lv_has ls 1 [(0, .ref (mad E (241)))] := hl
  unfold x1_isFull at hT
  refine lv_aload_n hx hb dX1_isFull_0 rfl (lv_at hl 0 rfl) ?_
  refine mx_get (v := .int (G 241 1)) (ci := 1) (C := RX1) (T := TX1) (N := 2) X Z hc.i (hc.c _) rfl inlX1 1 (by decide) wd_4_12 rfl dX1_isFull_1 ?_
  refine lv_aload_n hx hb dX1_isFull_4 rfl (lv_at hl 0 rfl) ?_
  refine mx_get (v := .ref (mad E (242))) (ci := 1) (C := RX1) (T := TX1) (N := 2) X Z hc.i (hc.c _) rfl inlX1 0 (by decide) wd_2_6 rfl dX1_isFull_5 ?_
  refine mx_alen (t := 0) (v := (40 : Int32)) X Z hc.signs.1 (hc.signs.2 _) rfl rfl dX1_isFull_8 ?_
  refine lv_icmp_lt (tgt := 16) hx hb dX1_isFull_9 (by decide) (fun h_1 => ?_) (fun h_1 => ?_)
  · replace hT := mx_t hT h_1
    refine lv_iconst (v := (0 : Int32)) hx hb dX1_isFull_16 (by decide) ?_
    cases hT
    exact W.zret (v := (0 : Int32)) hx hb hr rfl (fun t ht hW => mx_end Z t ht _) Z.2.2.2 dX1_isFull_17
  · replace hT := mx_f hT h_1
    refine lv_iconst (v := (1 : Int32)) hx hb dX1_isFull_12 (by decide) ?_
    refine lv_goto (tgt := 17) hx hb dX1_isFull_13 (by decide) ?_
    cases hT
    exact W.zret (v := (1 : Int32)) hx hb hr rfl (fun t ht hW => mx_end Z t ht _) Z.2.2.2 dX1_isFull_17
/-! PeatRailway$InputText.append -/
def x1_append (x1 : Int32) (G : mM) : Option mM :=
  if (G 241 1) < 0 then
    some (G)
  else
    if ((40 : Int32)) ≤ (G 241 1) then
      some (G)
    else
      mCk (mIn (G 241 1) 40) <|
      mNm (up2 G 242 ((G 241 1).toNatClampNeg) (vp_nar .char x1)) fun G_4 =>
      mNm (up2 G_4 241 1 ((G_4 241 1) + ((1 : Int32)))) fun G_5 =>
      some (G_5)
theorem hd1_append : yX1_append.cls = RX1 ∧ yX1_append.cls ≠ "java/lang/invoke/MethodHandle" ∧ yX1_append.cls ≠ "java/lang/invoke/VarHandle" ∧ (parseMethodDescriptor yX1_append.desc).map (fun d => d.parameters.length) = some 1 := by decide +kernel
set_option maxHeartbeats 4000000 in
set_option maxRecDepth 100000 in
theorem c1_append (l : Launch) (E : mE) (hJ : mJ E) (hc : mTx E 241) (x1 : Int32) (G : mM) (q : mM) (hT : x1_append x1 G = some q) : mMet l E yX1_append cX1_append 2 none 0 0 [.ref (mad E (241)), .int (x1)] G (none) q := by
  refine Met.ofW (cc := cX1_append) (maxL := 2) (ret := none) (by decide) rfl ?_
  intro p e s m args below meth cd s₁ B hml hv
  obtain ⟨rfl, hP, hK, hS⟩ := hv
  have X := mx_entry (own := RX1) B hml hK hJ hS rfl
  have hx := X.1
  have hb := X.2.1
  have hown := X.2.2.2.1
  have hts := X.2.2.2.2.1
  have hr := B.returns
  have hlocks := B.notSynchronized
  have hR : 0 ≤ (headSpec (mWs yX1_append cX1_append 2 none) ({ frames := 0, cells := 0, slots := 0, locals := 0 })).room.frames ∧ 0 ≤ (headSpec (mWs yX1_append cX1_append 2 none) ({ frames := 0, cells := 0, slots := 0, locals := 0 })).room.locals := ⟨Nat.le_refl _, Nat.le_refl _⟩
  have Z : mZ E s.heap s.heap [] G := ⟨hP, va_S.rf⟩
  have hl := lv_entry ([.ref (mad E (241)), .int (x1)]) (n := 2) (Nat.le_of_ble_eq_true rfl)
  rw [lg_entry_eq]
  generalize (lg_sl ([.ref (mad E (241)), .int (x1)]) ++ List.replicate (2 - (lg_sl ([.ref (mad E (241)), .int (x1)])).length) Slot.unset).toArray = ls at hl ⊢
  have hl : lv_has ls 2 [(0, .ref (mad E (241))), (1, .int (x1))] := hl
  unfold x1_append at hT
  refine lv_aload_n hx hb dX1_append_0 rfl (lv_at hl 0 rfl) ?_
  refine mx_get (v := .int (G 241 1)) (ci := 1) (C := RX1) (T := TX1) (N := 2) X Z hc.i (hc.c _) rfl inlX1 1 (by decide) wd_4_12 rfl dX1_append_1 ?_
  refine lv_if_lt (tgt := 39) hx hb dX1_append_4 (by decide) (fun h_1 => ?_) (fun h_1 => ?_)
  · replace hT := mx_t hT h_1
    cases hT
    exact W.vret hx hb hr (fun t ht hW => mx_end Z t ht _) Z.2.2.2 dX1_append_39
  · replace hT := mx_f hT h_1
    refine lv_aload_n hx hb dX1_append_7 rfl (lv_at hl 0 rfl) ?_
    refine mx_get (v := .int (G 241 1)) (ci := 1) (C := RX1) (T := TX1) (N := 2) X Z hc.i (hc.c _) rfl inlX1 1 (by decide) wd_4_12 rfl dX1_append_8 ?_
    refine lv_aload_n hx hb dX1_append_11 rfl (lv_at hl 0 rfl) ?_
    refine mx_get (v := .ref (mad E (242))) (ci := 1) (C := RX1) (T := TX1) (N := 2) X Z hc.i (hc.c _) rfl inlX1 0 (by decide) wd_2_6 rfl dX1_append_12 ?_
    refine mx_alen (t := 0) (v := (40 : Int32)) X Z hc.signs.1 (hc.signs.2 _) rfl rfl dX1_append_15 ?_
    refine lv_icmp_ge (tgt := 39) hx hb dX1_append_16 (by decide) (fun h_2 => ?_) (fun h_2 => ?_)
    · replace hT := mx_t hT h_2
      cases hT
      exact W.vret hx hb hr (fun t ht hW => mx_end Z t ht _) Z.2.2.2 dX1_append_39
    · replace hT := mx_f hT h_2
      refine lv_aload_n hx hb dX1_append_19 rfl (lv_at hl 0 rfl) ?_
      refine mx_get (v := .ref (mad E (242))) (ci := 1) (C := RX1) (T := TX1) (N := 2) X Z hc.i (hc.c _) rfl inlX1 0 (by decide) wd_2_6 rfl dX1_append_20 ?_
      refine lv_aload_n hx hb dX1_append_23 rfl (lv_at hl 0 rfl) ?_
      refine mx_get (v := .int (G 241 1)) (ci := 1) (C := RX1) (T := TX1) (N := 2) X Z hc.i (hc.c _) rfl inlX1 1 (by decide) wd_4_12 rfl dX1_append_24 ?_
      refine lv_iload_n hx hb dX1_append_27 rfl (lv_at hl 1 rfl) ?_
      obtain ⟨h_3, hT⟩ := mx_chk hT
      obtain ⟨G_4, e_G_4, hT⟩ := mx_nm hT
      refine mx_cast X Z hc.signs h_3 dX1_append_28 (fun H locs Z => ?_)
      rw [e_G_4] at Z
      refine lv_aload_n hx hb dX1_append_29 rfl (lv_at hl 0 rfl) ?_
      refine lv_dup hx hb dX1_append_30 rfl ?_
      refine mx_get (v := .int (G_4 241 1)) (ci := 1) (C := RX1) (T := TX1) (N := 2) X Z hc.i (hc.c _) rfl inlX1 1 (by decide) wd_4_12 rfl dX1_append_31 ?_
      refine lv_iconst (v := (1 : Int32)) hx hb dX1_append_34 (by decide) ?_
      refine lv_iadd hx hb dX1_append_35 ?_
      obtain ⟨G_5, e_G_5, hT⟩ := mx_nm hT
      refine mx_put (ci := 1) (C := RX1) (T := TX1) (N := 2) X Z hc.i (hc.c _) rfl inlX1 tyX1 tyX1_ok nmX1 1 (by decide) wd_4_12 rfl rfl rfl (by show 1 < 2; decide) ((hc.c _).trans (congrArg (fun z => Sum.inr (1, z)) (sp_Tx_1 (mad E) _ _ _))) dX1_append_36 (fun H locs Z => ?_)
      rw [e_G_5] at Z
      cases hT
      exact W.vret hx hb hr (fun t ht hW => mx_end Z t ht _) Z.2.2.2 dX1_append_39
/-! PeatRailway$InputText.length -/
def x1_length (G : mM) : Option Int32 :=
  some (G 241 1)
theorem hd1_length : yX1_length.cls = RX1 ∧ yX1_length.cls ≠ "java/lang/invoke/MethodHandle" ∧ yX1_length.cls ≠ "java/lang/invoke/VarHandle" ∧ (parseMethodDescriptor yX1_length.desc).map (fun d => d.parameters.length) = some 0 := by decide +kernel
set_option maxHeartbeats 4000000 in
set_option maxRecDepth 100000 in
theorem c1_length (l : Launch) (E : mE) (hJ : mJ E) (hc : mTx E 241) (G : mM) (q : Int32) (hT : x1_length G = some q) : mMet l E yX1_length cX1_length 1 (some .int) 0 0 [.ref (mad E (241))] G (some (.int q)) G := by
  refine Met.ofW (cc := cX1_length) (maxL := 1) (ret := (some .int)) (by decide) rfl ?_
  intro p e s m args below meth cd s₁ B hml hv
  obtain ⟨rfl, hP, hK, hS⟩ := hv
  have X := mx_entry (own := RX1) B hml hK hJ hS rfl
  have hx := X.1
  have hb := X.2.1
  have hown := X.2.2.2.1
  have hts := X.2.2.2.2.1
  have hr := B.returns
  have hlocks := B.notSynchronized
  have hR : 0 ≤ (headSpec (mWs yX1_length cX1_length 1 (some .int)) ({ frames := 0, cells := 0, slots := 0, locals := 0 })).room.frames ∧ 0 ≤ (headSpec (mWs yX1_length cX1_length 1 (some .int)) ({ frames := 0, cells := 0, slots := 0, locals := 0 })).room.locals := ⟨Nat.le_refl _, Nat.le_refl _⟩
  have Z : mZ E s.heap s.heap [] G := ⟨hP, va_S.rf⟩
  have hl := lv_entry ([.ref (mad E (241))]) (n := 1) (Nat.le_of_ble_eq_true rfl)
  rw [lg_entry_eq]
  generalize (lg_sl ([.ref (mad E (241))]) ++ List.replicate (1 - (lg_sl ([.ref (mad E (241))])).length) Slot.unset).toArray = ls at hl ⊢
  have hl : lv_has ls 1 [(0, .ref (mad E (241)))] := hl
  unfold x1_length at hT
  refine lv_aload_n hx hb dX1_length_0 rfl (lv_at hl 0 rfl) ?_
  refine mx_get (v := .int (G 241 1)) (ci := 1) (C := RX1) (T := TX1) (N := 2) X Z hc.i (hc.c _) rfl inlX1 1 (by decide) wd_4_12 rfl dX1_length_1 ?_
  cases hT
  exact W.iret hx hb hr (fun t ht hW => mx_end Z t ht _) Z.2.2.2 dX1_length_4
/-! PeatRailway.type -/
def x5_type (x1 : Int32) (G : mM) : Option (Int32 × mM) :=
  if x1 < ((32 : Int32)) then
    some ((-2 : Int32), G)
  else
    if x1 ≤ ((126 : Int32)) then
      (x1_isFull G).bind fun q_3 =>
      if q_3 = 0 then
        (x1_append ((x1.toUInt32 % 65536).toInt32) G).bind fun q_5 =>
        (x1_length q_5).bind fun q_6 =>
        some (q_6, q_5)
      else
        some ((-4 : Int32), G)
    else
      some ((-2 : Int32), G)
theorem hd5_type : yX5_type.cls = RX5 ∧ yX5_type.cls ≠ "java/lang/invoke/MethodHandle" ∧ yX5_type.cls ≠ "java/lang/invoke/VarHandle" ∧ (parseMethodDescriptor yX5_type.desc).map (fun d => d.parameters.length) = some 1 := by decide +kernel
set_option maxHeartbeats 4000000 in
set_option maxRecDepth 100000 in
theorem c5_type (l : Launch) (E : mE) (hJ : mJ E) (hc : mAl E 240) (x1 : Int32) (G : mM) (q : (Int32 × mM)) (hT : x5_type x1 G = some q) : mMet l E yX5_type cX5_type 2 (some .int) 1 21 [.ref (mad E (240)), .int (x1)] G (some (.int q.1)) q.2 := by
  refine Met.ofW (cc := cX5_type) (maxL := 2) (ret := (some .int)) (by decide) rfl ?_
  intro p e s m args below meth cd s₁ B hml hv
  obtain ⟨rfl, hP, hK, hS⟩ := hv
  have X := mx_entry (own := RX5) B hml hK hJ hS rfl
  have hx := X.1
  have hb := X.2.1
  have hown := X.2.2.2.1
  have hts := X.2.2.2.2.1
  have hr := B.returns
  have hlocks := B.notSynchronized
  have hR : 1 ≤ (headSpec (mWs yX5_type cX5_type 2 (some .int)) ({ frames := 1, cells := 0, slots := 0, locals := 21 })).room.frames ∧ 21 ≤ (headSpec (mWs yX5_type cX5_type 2 (some .int)) ({ frames := 1, cells := 0, slots := 0, locals := 21 })).room.locals := ⟨Nat.le_refl _, Nat.le_refl _⟩
  have Z : mZ E s.heap s.heap [] G := ⟨hP, va_S.rf⟩
  have hl := lv_entry ([.ref (mad E (240)), .int (x1)]) (n := 2) (Nat.le_of_ble_eq_true rfl)
  rw [lg_entry_eq]
  generalize (lg_sl ([.ref (mad E (240)), .int (x1)]) ++ List.replicate (2 - (lg_sl ([.ref (mad E (240)), .int (x1)])).length) Slot.unset).toArray = ls at hl ⊢
  have hl : lv_has ls 2 [(0, .ref (mad E (240))), (1, .int (x1))] := hl
  unfold x5_type at hT
  refine lv_iload_n hx hb dX5_type_0 rfl (lv_at hl 1 rfl) ?_
  refine lv_bipush (v := (32 : Int32)) hx hb dX5_type_1 (by decide) ?_
  refine lv_icmp_lt (tgt := 12) hx hb dX5_type_3 (by decide) (fun h_1 => ?_) (fun h_1 => ?_)
  · replace hT := mx_t hT h_1
    refine lv_bipush (v := (-2 : Int32)) hx hb dX5_type_12 (by decide) ?_
    cases hT
    exact W.iret hx hb hr (fun t ht hW => mx_end Z t ht _) Z.2.2.2 dX5_type_14
  · replace hT := mx_f hT h_1
    refine lv_iload_n hx hb dX5_type_6 rfl (lv_at hl 1 rfl) ?_
    refine lv_bipush (v := (126 : Int32)) hx hb dX5_type_7 (by decide) ?_
    refine lv_icmp_le (tgt := 15) hx hb dX5_type_9 (by decide) (fun h_2 => ?_) (fun h_2 => ?_)
    · replace hT := mx_t hT h_2
      refine lv_aload_n hx hb dX5_type_15 rfl (lv_at hl 0 rfl) ?_
      refine mx_get (v := .ref (mad E (241))) (ci := 5) (C := RX5) (T := TX5) (N := 6) X Z hc.i (hc.c _) rfl inlX5 0 (by decide) wd_1_17 rfl dX5_type_16 ?_
      obtain ⟨q_3, h_q_3, hT⟩ := mx_bind hT
      refine mx_callV (As := []) (rest := []) (st1 := [.int (q_3)]) (C := RX1) (T := TX1) (N := 2) (ci := 1) X Z hl.1 (c1_isFull l E hJ hc.tx _ _ h_q_3) wd_21_23 wd_22_0 wd_22_1 wd_1_13 wd_22_2 hd1_isFull ⟨Nat.le_trans (by decide) hR.1, Nat.le_trans (by decide) hR.2⟩ ⟨Nat.zero_le _, Nat.zero_le _⟩ hc.tx.i (hc.tx.c _) rfl (Nat.le_of_ble_eq_true rfl) rfl rfl dX5_type_19 (fun H locs Z => ?_)
      refine lv_if_eq (tgt := 28) hx hb dX5_type_22 (by decide) (fun h_4 => ?_) (fun h_4 => ?_)
      · replace hT := mx_t hT h_4
        refine lv_aload_n hx hb dX5_type_28 rfl (lv_at hl 0 rfl) ?_
        refine mx_get (v := .ref (mad E (241))) (ci := 5) (C := RX5) (T := TX5) (N := 6) X Z hc.i (hc.c _) rfl inlX5 0 (by decide) wd_1_17 rfl dX5_type_29 ?_
        refine lv_iload_n hx hb dX5_type_32 rfl (lv_at hl 1 rfl) ?_
        refine lv_i2c (v := (x1.toUInt32 % 65536).toInt32) hx hb dX5_type_33 rfl ?_
        obtain ⟨q_5, h_q_5, hT⟩ := mx_bind hT
        refine mx_callV (As := [.int ((x1.toUInt32 % 65536).toInt32)]) (rest := []) (st1 := []) (C := RX1) (T := TX1) (N := 2) (ci := 1) X Z hl.1 (c1_append l E hJ hc.tx _ _ _ h_q_5) wd_4_8 wd_4_9 wd_4_10 wd_1_13 wd_4_11 hd1_append ⟨Nat.le_trans (by decide) hR.1, Nat.le_trans (by decide) hR.2⟩ ⟨Nat.zero_le _, Nat.zero_le _⟩ hc.tx.i (hc.tx.c _) rfl (Nat.le_of_ble_eq_true rfl) rfl rfl dX5_type_34 (fun H locs Z => ?_)
        refine lv_aload_n hx hb dX5_type_37 rfl (lv_at hl 0 rfl) ?_
        refine mx_get (v := .ref (mad E (241))) (ci := 5) (C := RX5) (T := TX5) (N := 6) X Z hc.i (hc.c _) rfl inlX5 0 (by decide) wd_1_17 rfl dX5_type_38 ?_
        obtain ⟨q_6, h_q_6, hT⟩ := mx_bind hT
        refine mx_callV (As := []) (rest := []) (st1 := [.int (q_6)]) (C := RX1) (T := TX1) (N := 2) (ci := 1) X Z hl.1 (c1_length l E hJ hc.tx _ _ h_q_6) wd_21_7 wd_21_8 wd_21_9 wd_1_13 wd_21_10 hd1_length ⟨Nat.le_trans (by decide) hR.1, Nat.le_trans (by decide) hR.2⟩ ⟨Nat.zero_le _, Nat.zero_le _⟩ hc.tx.i (hc.tx.c _) rfl (Nat.le_of_ble_eq_true rfl) rfl rfl dX5_type_41 (fun H locs Z => ?_)
        cases hT
        exact W.iret hx hb hr (fun t ht hW => mx_end Z t ht _) Z.2.2.2 dX5_type_44
      · replace hT := mx_f hT h_4
        refine lv_bipush (v := (-4 : Int32)) hx hb dX5_type_25 (by decide) ?_
        cases hT
        exact W.iret hx hb hr (fun t ht hW => mx_end Z t ht _) Z.2.2.2 dX5_type_27
    · replace hT := mx_f hT h_2
      refine lv_bipush (v := (-2 : Int32)) hx hb dX5_type_12 (by decide) ?_
      cases hT
      exact W.iret hx hb hr (fun t ht hW => mx_end Z t ht _) Z.2.2.2 dX5_type_14
/-! PeatRailway$InputText.wipe -/
def x1_wipe (G : mM) : Option mM :=
  mNm (up2 G 241 1 ((0 : Int32))) fun G_1 =>
  some (G_1)
theorem hd1_wipe : yX1_wipe.cls = RX1 ∧ yX1_wipe.cls ≠ "java/lang/invoke/MethodHandle" ∧ yX1_wipe.cls ≠ "java/lang/invoke/VarHandle" ∧ (parseMethodDescriptor yX1_wipe.desc).map (fun d => d.parameters.length) = some 0 := by decide +kernel
set_option maxHeartbeats 4000000 in
set_option maxRecDepth 100000 in
theorem c1_wipe (l : Launch) (E : mE) (hJ : mJ E) (hc : mTx E 241) (G : mM) (q : mM) (hT : x1_wipe G = some q) : mMet l E yX1_wipe cX1_wipe 1 none 0 0 [.ref (mad E (241))] G (none) q := by
  refine Met.ofW (cc := cX1_wipe) (maxL := 1) (ret := none) (by decide) rfl ?_
  intro p e s m args below meth cd s₁ B hml hv
  obtain ⟨rfl, hP, hK, hS⟩ := hv
  have X := mx_entry (own := RX1) B hml hK hJ hS rfl
  have hx := X.1
  have hb := X.2.1
  have hown := X.2.2.2.1
  have hts := X.2.2.2.2.1
  have hr := B.returns
  have hlocks := B.notSynchronized
  have hR : 0 ≤ (headSpec (mWs yX1_wipe cX1_wipe 1 none) ({ frames := 0, cells := 0, slots := 0, locals := 0 })).room.frames ∧ 0 ≤ (headSpec (mWs yX1_wipe cX1_wipe 1 none) ({ frames := 0, cells := 0, slots := 0, locals := 0 })).room.locals := ⟨Nat.le_refl _, Nat.le_refl _⟩
  have Z : mZ E s.heap s.heap [] G := ⟨hP, va_S.rf⟩
  have hl := lv_entry ([.ref (mad E (241))]) (n := 1) (Nat.le_of_ble_eq_true rfl)
  rw [lg_entry_eq]
  generalize (lg_sl ([.ref (mad E (241))]) ++ List.replicate (1 - (lg_sl ([.ref (mad E (241))])).length) Slot.unset).toArray = ls at hl ⊢
  have hl : lv_has ls 1 [(0, .ref (mad E (241)))] := hl
  unfold x1_wipe at hT
  refine lv_aload_n hx hb dX1_wipe_0 rfl (lv_at hl 0 rfl) ?_
  refine lv_iconst (v := (0 : Int32)) hx hb dX1_wipe_1 (by decide) ?_
  obtain ⟨G_1, e_G_1, hT⟩ := mx_nm hT
  refine mx_put (ci := 1) (C := RX1) (T := TX1) (N := 2) X Z hc.i (hc.c _) rfl inlX1 tyX1 tyX1_ok nmX1 1 (by decide) wd_4_12 rfl rfl rfl (by show 1 < 2; decide) ((hc.c _).trans (congrArg (fun z => Sum.inr (1, z)) (sp_Tx_1 (mad E) _ _ _))) dX1_wipe_2 (fun H locs Z => ?_)
  rw [e_G_1] at Z
  cases hT
  exact W.vret hx hb hr (fun t ht hW => mx_end Z t ht _) Z.2.2.2 dX1_wipe_5
/-! PeatRailway.clear -/
def x5_clear (G : mM) : Option (Int32 × mM) :=
  (x1_length G).bind fun q_1 =>
  (x1_wipe G).bind fun q_2 =>
  some (q_1, q_2)
theorem hd5_clear : yX5_clear.cls = RX5 ∧ yX5_clear.cls ≠ "java/lang/invoke/MethodHandle" ∧ yX5_clear.cls ≠ "java/lang/invoke/VarHandle" ∧ (parseMethodDescriptor yX5_clear.desc).map (fun d => d.parameters.length) = some 0 := by decide +kernel
set_option maxHeartbeats 4000000 in
set_option maxRecDepth 100000 in
theorem c5_clear (l : Launch) (E : mE) (hJ : mJ E) (hc : mAl E 240) (G : mM) (q : (Int32 × mM)) (hT : x5_clear G = some q) : mMet l E yX5_clear cX5_clear 2 (some .int) 1 20 [.ref (mad E (240))] G (some (.int q.1)) q.2 := by
  refine Met.ofW (cc := cX5_clear) (maxL := 2) (ret := (some .int)) (by decide) rfl ?_
  intro p e s m args below meth cd s₁ B hml hv
  obtain ⟨rfl, hP, hK, hS⟩ := hv
  have X := mx_entry (own := RX5) B hml hK hJ hS rfl
  have hx := X.1
  have hb := X.2.1
  have hown := X.2.2.2.1
  have hts := X.2.2.2.2.1
  have hr := B.returns
  have hlocks := B.notSynchronized
  have hR : 1 ≤ (headSpec (mWs yX5_clear cX5_clear 2 (some .int)) ({ frames := 1, cells := 0, slots := 0, locals := 20 })).room.frames ∧ 20 ≤ (headSpec (mWs yX5_clear cX5_clear 2 (some .int)) ({ frames := 1, cells := 0, slots := 0, locals := 20 })).room.locals := ⟨Nat.le_refl _, Nat.le_refl _⟩
  have Z : mZ E s.heap s.heap [] G := ⟨hP, va_S.rf⟩
  have hl := lv_entry ([.ref (mad E (240))]) (n := 2) (Nat.le_of_ble_eq_true rfl)
  rw [lg_entry_eq]
  generalize (lg_sl ([.ref (mad E (240))]) ++ List.replicate (2 - (lg_sl ([.ref (mad E (240))])).length) Slot.unset).toArray = ls at hl ⊢
  have hl : lv_has ls 2 [(0, .ref (mad E (240)))] := hl
  unfold x5_clear at hT
  refine lv_aload_n hx hb dX5_clear_0 rfl (lv_at hl 0 rfl) ?_
  refine mx_get (v := .ref (mad E (241))) (ci := 5) (C := RX5) (T := TX5) (N := 6) X Z hc.i (hc.c _) rfl inlX5 0 (by decide) wd_1_17 rfl dX5_clear_1 ?_
  obtain ⟨q_1, h_q_1, hT⟩ := mx_bind hT
  refine mx_callV (As := []) (rest := []) (st1 := [.int (q_1)]) (C := RX1) (T := TX1) (N := 2) (ci := 1) X Z hl.1 (c1_length l E hJ hc.tx _ _ h_q_1) wd_21_7 wd_21_8 wd_21_9 wd_1_13 wd_21_10 hd1_length ⟨Nat.le_trans (by decide) hR.1, Nat.le_trans (by decide) hR.2⟩ ⟨Nat.zero_le _, Nat.zero_le _⟩ hc.tx.i (hc.tx.c _) rfl (Nat.le_of_ble_eq_true rfl) rfl rfl dX5_clear_4 (fun H locs Z => ?_)
  refine lv_istore_n (lv' := [(1, .int (q_1)), (0, .ref (mad E (240)))]) hx hb dX5_clear_7 rfl hl (by decide) rfl (fun ls hl => ?_)
  refine lv_aload_n hx hb dX5_clear_8 rfl (lv_at hl 1 rfl) ?_
  refine mx_get (v := .ref (mad E (241))) (ci := 5) (C := RX5) (T := TX5) (N := 6) X Z hc.i (hc.c _) rfl inlX5 0 (by decide) wd_1_17 rfl dX5_clear_9 ?_
  obtain ⟨q_2, h_q_2, hT⟩ := mx_bind hT
  refine mx_callV (As := []) (rest := []) (st1 := []) (C := RX1) (T := TX1) (N := 2) (ci := 1) X Z hl.1 (c1_wipe l E hJ hc.tx _ _ h_q_2) wd_7_6 wd_7_7 wd_7_8 wd_1_13 wd_7_9 hd1_wipe ⟨Nat.le_trans (by decide) hR.1, Nat.le_trans (by decide) hR.2⟩ ⟨Nat.zero_le _, Nat.zero_le _⟩ hc.tx.i (hc.tx.c _) rfl (Nat.le_of_ble_eq_true rfl) rfl rfl dX5_clear_12 (fun H locs Z => ?_)
  refine lv_iload_n hx hb dX5_clear_15 rfl (lv_at hl 0 rfl) ?_
  cases hT
  exact W.iret hx hb hr (fun t ht hW => mx_end Z t ht _) Z.2.2.2 dX5_clear_16
/-! PeatRailway$InputText.codeAt -/
def x1_codeAt (x1 : Int32) (G : mM) : Option Int32 :=
  if x1 < 0 then
    some ((0 : Int32))
  else
    if ((40 : Int32)) ≤ x1 then
      some ((0 : Int32))
    else
      mCk (mIn x1 40) <|
      some (G 242 x1.toNatClampNeg)
theorem hd1_codeAt : yX1_codeAt.cls = RX1 ∧ yX1_codeAt.cls ≠ "java/lang/invoke/MethodHandle" ∧ yX1_codeAt.cls ≠ "java/lang/invoke/VarHandle" ∧ (parseMethodDescriptor yX1_codeAt.desc).map (fun d => d.parameters.length) = some 1 := by decide +kernel
set_option maxHeartbeats 4000000 in
set_option maxRecDepth 100000 in
theorem c1_codeAt (l : Launch) (E : mE) (hJ : mJ E) (hc : mTx E 241) (x1 : Int32) (G : mM) (q : Int32) (hT : x1_codeAt x1 G = some q) : mMet l E yX1_codeAt cX1_codeAt 2 (some .int) 0 0 [.ref (mad E (241)), .int (x1)] G (some (.int q)) G := by
  refine Met.ofW (cc := cX1_codeAt) (maxL := 2) (ret := (some .int)) (by decide) rfl ?_
  intro p e s m args below meth cd s₁ B hml hv
  obtain ⟨rfl, hP, hK, hS⟩ := hv
  have X := mx_entry (own := RX1) B hml hK hJ hS rfl
  have hx := X.1
  have hb := X.2.1
  have hown := X.2.2.2.1
  have hts := X.2.2.2.2.1
  have hr := B.returns
  have hlocks := B.notSynchronized
  have hR : 0 ≤ (headSpec (mWs yX1_codeAt cX1_codeAt 2 (some .int)) ({ frames := 0, cells := 0, slots := 0, locals := 0 })).room.frames ∧ 0 ≤ (headSpec (mWs yX1_codeAt cX1_codeAt 2 (some .int)) ({ frames := 0, cells := 0, slots := 0, locals := 0 })).room.locals := ⟨Nat.le_refl _, Nat.le_refl _⟩
  have Z : mZ E s.heap s.heap [] G := ⟨hP, va_S.rf⟩
  have hl := lv_entry ([.ref (mad E (241)), .int (x1)]) (n := 2) (Nat.le_of_ble_eq_true rfl)
  rw [lg_entry_eq]
  generalize (lg_sl ([.ref (mad E (241)), .int (x1)]) ++ List.replicate (2 - (lg_sl ([.ref (mad E (241)), .int (x1)])).length) Slot.unset).toArray = ls at hl ⊢
  have hl : lv_has ls 2 [(0, .ref (mad E (241))), (1, .int (x1))] := hl
  unfold x1_codeAt at hT
  refine lv_iload_n hx hb dX1_codeAt_0 rfl (lv_at hl 1 rfl) ?_
  refine lv_if_lt (tgt := 22) hx hb dX1_codeAt_1 (by decide) (fun h_1 => ?_) (fun h_1 => ?_)
  · replace hT := mx_t hT h_1
    refine lv_iconst (v := (0 : Int32)) hx hb dX1_codeAt_22 (by decide) ?_
    cases hT
    exact W.iret hx hb hr (fun t ht hW => mx_end Z t ht _) Z.2.2.2 dX1_codeAt_23
  · replace hT := mx_f hT h_1
    refine lv_iload_n hx hb dX1_codeAt_4 rfl (lv_at hl 1 rfl) ?_
    refine lv_aload_n hx hb dX1_codeAt_5 rfl (lv_at hl 0 rfl) ?_
    refine mx_get (v := .ref (mad E (242))) (ci := 1) (C := RX1) (T := TX1) (N := 2) X Z hc.i (hc.c _) rfl inlX1 0 (by decide) wd_2_6 rfl dX1_codeAt_6 ?_
    refine mx_alen (t := 0) (v := (40 : Int32)) X Z hc.signs.1 (hc.signs.2 _) rfl rfl dX1_codeAt_9 ?_
    refine lv_icmp_ge (tgt := 22) hx hb dX1_codeAt_10 (by decide) (fun h_2 => ?_) (fun h_2 => ?_)
    · replace hT := mx_t hT h_2
      refine lv_iconst (v := (0 : Int32)) hx hb dX1_codeAt_22 (by decide) ?_
      cases hT
      exact W.iret hx hb hr (fun t ht hW => mx_end Z t ht _) Z.2.2.2 dX1_codeAt_23
    · replace hT := mx_f hT h_2
      refine lv_aload_n hx hb dX1_codeAt_13 rfl (lv_at hl 0 rfl) ?_
      refine mx_get (v := .ref (mad E (242))) (ci := 1) (C := RX1) (T := TX1) (N := 2) X Z hc.i (hc.c _) rfl inlX1 0 (by decide) wd_2_6 rfl dX1_codeAt_14 ?_
      refine lv_iload_n hx hb dX1_codeAt_17 rfl (lv_at hl 1 rfl) ?_
      obtain ⟨h_3, hT⟩ := mx_chk hT
      refine mx_cald X Z hc.signs h_3 dX1_codeAt_18 ?_
      refine lv_goto (tgt := 23) hx hb dX1_codeAt_19 (by decide) ?_
      cases hT
      exact W.iret hx hb hr (fun t ht hW => mx_end Z t ht _) Z.2.2.2 dX1_codeAt_23
/-! PeatRailway$InputText.isDigit -/
def x1_isDigit (x0 : Int32) (G : mM) : Option Int32 :=
  if x0 < ((48 : Int32)) then
    some ((0 : Int32))
  else
    if ((57 : Int32)) < x0 then
      some ((0 : Int32))
    else
      some ((1 : Int32))
theorem hd1_isDigit : yX1_isDigit.cls ≠ "java/lang/invoke/MethodHandle" ∧ yX1_isDigit.cls ≠ "java/lang/invoke/VarHandle" ∧ (parseMethodDescriptor yX1_isDigit.desc).map (fun d => d.parameters.length) = some 1 := by decide +kernel
set_option maxHeartbeats 4000000 in
set_option maxRecDepth 100000 in
theorem c1_isDigit (l : Launch) (E : mE) (hJ : mJ E) (x0 : Int32) (G : mM) (q : Int32) (hT : x1_isDigit x0 G = some q) : mMet l E yX1_isDigit cX1_isDigit 1 (some .boolean) 0 0 [.int (x0)] G (some (.int q)) G := by
  refine Met.ofW (cc := cX1_isDigit) (maxL := 1) (ret := (some .boolean)) (by decide) rfl ?_
  intro p e s m args below meth cd s₁ B hml hv
  obtain ⟨rfl, hP, hK, hS⟩ := hv
  have X := mx_entry (own := RX1) B hml hK hJ hS rfl
  have hx := X.1
  have hb := X.2.1
  have hown := X.2.2.2.1
  have hts := X.2.2.2.2.1
  have hr := B.returns
  have hlocks := B.notSynchronized
  have hR : 0 ≤ (headSpec (mWs yX1_isDigit cX1_isDigit 1 (some .boolean)) ({ frames := 0, cells := 0, slots := 0, locals := 0 })).room.frames ∧ 0 ≤ (headSpec (mWs yX1_isDigit cX1_isDigit 1 (some .boolean)) ({ frames := 0, cells := 0, slots := 0, locals := 0 })).room.locals := ⟨Nat.le_refl _, Nat.le_refl _⟩
  have Z : mZ E s.heap s.heap [] G := ⟨hP, va_S.rf⟩
  have hl := lv_entry ([.int (x0)]) (n := 1) (Nat.le_of_ble_eq_true rfl)
  rw [lg_entry_eq]
  generalize (lg_sl ([.int (x0)]) ++ List.replicate (1 - (lg_sl ([.int (x0)])).length) Slot.unset).toArray = ls at hl ⊢
  have hl : lv_has ls 1 [(0, .int (x0))] := hl
  unfold x1_isDigit at hT
  refine lv_iload_n hx hb dX1_isDigit_0 rfl (lv_at hl 0 rfl) ?_
  refine lv_bipush (v := (48 : Int32)) hx hb dX1_isDigit_1 (by decide) ?_
  refine lv_icmp_lt (tgt := 16) hx hb dX1_isDigit_3 (by decide) (fun h_1 => ?_) (fun h_1 => ?_)
  · replace hT := mx_t hT h_1
    refine lv_iconst (v := (0 : Int32)) hx hb dX1_isDigit_16 (by decide) ?_
    cases hT
    exact W.zret (v := (0 : Int32)) hx hb hr rfl (fun t ht hW => mx_end Z t ht _) Z.2.2.2 dX1_isDigit_17
  · replace hT := mx_f hT h_1
    refine lv_iload_n hx hb dX1_isDigit_6 rfl (lv_at hl 0 rfl) ?_
    refine lv_bipush (v := (57 : Int32)) hx hb dX1_isDigit_7 (by decide) ?_
    refine lv_icmp_gt (tgt := 16) hx hb dX1_isDigit_9 (by decide) (fun h_2 => ?_) (fun h_2 => ?_)
    · replace hT := mx_t hT h_2
      refine lv_iconst (v := (0 : Int32)) hx hb dX1_isDigit_16 (by decide) ?_
      cases hT
      exact W.zret (v := (0 : Int32)) hx hb hr rfl (fun t ht hW => mx_end Z t ht _) Z.2.2.2 dX1_isDigit_17
    · replace hT := mx_f hT h_2
      refine lv_iconst (v := (1 : Int32)) hx hb dX1_isDigit_12 (by decide) ?_
      refine lv_goto (tgt := 17) hx hb dX1_isDigit_13 (by decide) ?_
      cases hT
      exact W.zret (v := (1 : Int32)) hx hb hr rfl (fun t ht hW => mx_end Z t ht _) Z.2.2.2 dX1_isDigit_17
/-! PeatRailway$InputText.firstFault -/
def x1_firstFault_L6 : Nat → Int32 → Int32 → Int32 → mM → Option (Nat × Int32 × Int32 × Int32)
  | 0, _, _, _, _ => none
  | n + 1, w1, w2, w3, G =>
    if (G 241 1) ≤ w3 then
      some (0, w1, w2, 0)
    else
      (x1_codeAt w3 G).bind fun q_2 =>
      if w1 = 0 then
        (x1_isDigit q_2 G).bind fun q_13 =>
        if q_13 = 0 then
          some (1, 0, 0, w3)
        else
          mNm (w2 + (1 : Int32)) fun v_15 =>
          mNm (w3 + (1 : Int32)) fun v_16 =>
          x1_firstFault_L6 n ((1 : Int32)) v_15 v_16 G
      else
        if q_2 = ((44 : Int32)) then
          if ((12 : Int32)) ≤ w2 then
            if q_2 = ((112 : Int32)) then
              if w1 = ((1 : Int32)) then
                mNm (w3 + (1 : Int32)) fun v_11 =>
                x1_firstFault_L6 n ((2 : Int32)) w2 v_11 G
              else
                some (2, 0, 0, w3)
            else
              some (2, 0, 0, w3)
          else
            mNm (w3 + (1 : Int32)) fun v_12 =>
            x1_firstFault_L6 n ((0 : Int32)) w2 v_12 G
        else
          if q_2 = ((112 : Int32)) then
            if w1 = ((1 : Int32)) then
              mNm (w3 + (1 : Int32)) fun v_7 =>
              x1_firstFault_L6 n ((2 : Int32)) w2 v_7 G
            else
              some (2, 0, 0, w3)
          else
            some (2, 0, 0, w3)
def x1_firstFault (G : mM) : Option Int32 :=
  (x1_firstFault_L6 mFu ((0 : Int32)) ((0 : Int32)) ((0 : Int32)) G).bind fun q_17 =>
  if q_17.1 = 0 then
    if q_17.2.1 = 0 then
      some (G 241 1)
    else
      if ((3 : Int32)) ≤ q_17.2.2.1 then
        some ((-1 : Int32))
      else
        some (G 241 1)
  else
    if q_17.1 = 1 then
      some (q_17.2.2.2)
    else
      some (q_17.2.2.2)
theorem hd1_firstFault : yX1_firstFault.cls = RX1 ∧ yX1_firstFault.cls ≠ "java/lang/invoke/MethodHandle" ∧ yX1_firstFault.cls ≠ "java/lang/invoke/VarHandle" ∧ (parseMethodDescriptor yX1_firstFault.desc).map (fun d => d.parameters.length) = some 0 := by decide +kernel
set_option maxHeartbeats 4000000 in
set_option maxRecDepth 100000 in
theorem k1_firstFault_6 {p : Program} {l : Launch} {e : Env} {R : Room} {s : State} {m : MethodId} {args : Array Value} {below : List Frame} {meth : Method} {cd : Code} {Q : State → Prop} {E : mE} (X : mX p s m args cd cX1_firstFault 5 RX1 E) (hR : 1 ≤ R.frames ∧ 21 ≤ R.locals) (hJ : mJ E) (hy0 : mTx E 241) : ∀ (n : Nat) (w1 : Int32) (w2 : Int32) (w3 : Int32) (G : mM) (H : Heap) (locs : List Loc) (ls : Array Slot) (r : Nat × Int32 × Int32 × Int32), x1_firstFault_L6 n w1 w2 w3 G = some r → mZ E s.heap H locs G → lv_has ls 5 [(0, .ref (mad E (241))), (1, .int (w1)), (2, .int (w2)), (3, .int (w3))] → (r.1 = 0 → ∀ (H : Heap) (locs : List Loc) (ls : Array Slot), mZ E s.heap H locs G → lv_has ls 5 [(0, .ref (mad E (241))), (1, .int (r.2.1)), (2, .int (r.2.2.1))] → W p l e R s m args below meth cd H locs 0 0 Q (F0 m 86 ls [])) → (r.1 = 1 → ∀ (H : Heap) (locs : List Loc) (ls : Array Slot), mZ E s.heap H locs G → lv_has ls 5 [(0, .ref (mad E (241))), (3, .int (r.2.2.2))] → W p l e R s m args below meth cd H locs 0 0 Q (F0 m 33 ls [])) → (r.1 = 2 → ∀ (H : Heap) (locs : List Loc) (ls : Array Slot), mZ E s.heap H locs G → lv_has ls 5 [(0, .ref (mad E (241))), (3, .int (r.2.2.2))] → W p l e R s m args below meth cd H locs 0 0 Q (F0 m 78 ls [])) → W p l e R s m args below meth cd H locs 0 0 Q (F0 m 6 ls []) := by
  have hx := X.1
  have hb := X.2.1
  have hown := X.2.2.2.1
  have hts := X.2.2.2.2.1
  intro n
  induction n with
  | zero =>
    intro w1 w2 w3 G H locs ls r hT
    rw [x1_firstFault_L6] at hT
    cases hT
  | succ n ih =>
    intro w1 w2 w3 G H locs ls r hT Z hl k0 k1 k2
    rw [x1_firstFault_L6] at hT
    refine lv_iload_n hx hb dX1_firstFault_6 rfl (lv_at hl 3 rfl) ?_
    refine lv_aload_n hx hb dX1_firstFault_7 rfl (lv_at hl 0 rfl) ?_
    refine mx_get (v := .int (G 241 1)) (ci := 1) (C := RX1) (T := TX1) (N := 2) X Z hy0.i (hy0.c _) rfl inlX1 1 (by decide) wd_4_12 rfl dX1_firstFault_8 ?_
    refine lv_icmp_ge (tgt := 86) hx hb dX1_firstFault_11 (by decide) (fun h_1 => ?_) (fun h_1 => ?_)
    · replace hT := mx_t hT h_1
      cases hT
      exact k0 rfl _ _ _ Z (lv_sub hl [0, 1, 2] rfl)
    · replace hT := mx_f hT h_1
      refine lv_aload_n hx hb dX1_firstFault_14 rfl (lv_at hl 0 rfl) ?_
      refine lv_iload_n hx hb dX1_firstFault_15 rfl (lv_at hl 3 rfl) ?_
      obtain ⟨q_2, h_q_2, hT⟩ := mx_bind hT
      refine mx_callV (As := [.int (w3)]) (rest := []) (st1 := [.int (q_2)]) (C := RX1) (T := TX1) (N := 2) (ci := 1) X Z hl.1 (c1_codeAt l E hJ hy0 _ _ _ h_q_2) wd_5_17 wd_5_18 wd_5_19 wd_1_13 wd_5_20 hd1_codeAt ⟨Nat.le_trans (by decide) hR.1, Nat.le_trans (by decide) hR.2⟩ ⟨Nat.zero_le _, Nat.zero_le _⟩ hy0.i (hy0.c _) rfl (Nat.le_of_ble_eq_true rfl) rfl rfl dX1_firstFault_16 (fun H locs Z => ?_)
      refine lv_istore (lv' := [(4, .int (q_2)), (0, .ref (mad E (241))), (1, .int (w1)), (2, .int (w2)), (3, .int (w3))]) hx hb dX1_firstFault_19 hl (by decide) rfl (fun ls hl => ?_)
      refine lv_iload_n hx hb dX1_firstFault_21 rfl (lv_at hl 2 rfl) ?_
      refine lv_if_ne (tgt := 43) hx hb dX1_firstFault_22 (by decide) (fun h_3 => ?_) (fun h_3 => ?_)
      · replace hT := mx_f hT h_3
        refine lv_iload hx hb dX1_firstFault_43 (lv_at hl 0 rfl) ?_
        refine lv_bipush (v := (44 : Int32)) hx hb dX1_firstFault_45 (by decide) ?_
        refine lv_icmp_ne (tgt := 61) hx hb dX1_firstFault_47 (by decide) (fun h_4 => ?_) (fun h_4 => ?_)
        · replace hT := mx_f hT h_4
          refine lv_iload hx hb dX1_firstFault_61 (lv_at hl 0 rfl) ?_
          refine lv_bipush (v := (112 : Int32)) hx hb dX1_firstFault_63 (by decide) ?_
          refine lv_icmp_ne (tgt := 78) hx hb dX1_firstFault_65 (by decide) (fun h_5 => ?_) (fun h_5 => ?_)
          · replace hT := mx_f hT h_5
            cases hT
            exact k2 rfl _ _ _ Z (lv_sub hl [1, 4] rfl)
          · replace hT := mx_t hT h_5
            refine lv_iload_n hx hb dX1_firstFault_68 rfl (lv_at hl 2 rfl) ?_
            refine lv_iconst (v := (1 : Int32)) hx hb dX1_firstFault_69 (by decide) ?_
            refine lv_icmp_ne (tgt := 78) hx hb dX1_firstFault_70 (by decide) (fun h_6 => ?_) (fun h_6 => ?_)
            · replace hT := mx_f hT h_6
              cases hT
              exact k2 rfl _ _ _ Z (lv_sub hl [1, 4] rfl)
            · replace hT := mx_t hT h_6
              refine lv_iconst (v := (2 : Int32)) hx hb dX1_firstFault_73 (by decide) ?_
              refine lv_istore_n (lv' := [(1, .int ((2 : Int32))), (4, .int (q_2)), (0, .ref (mad E (241))), (2, .int (w2)), (3, .int (w3))]) hx hb dX1_firstFault_74 rfl hl (by decide) rfl (fun ls hl => ?_)
              refine lv_goto (tgt := 80) hx hb dX1_firstFault_75 (by decide) ?_
              obtain ⟨v_7, e_v_7, hT⟩ := mx_nm hT
              refine lv_iinc (v := v_7) (lv' := [(3, .int (v_7)), (1, .int ((2 : Int32))), (4, .int (q_2)), (0, .ref (mad E (241))), (2, .int (w2))]) hx hb dX1_firstFault_80 hl (k := 4) rfl (by rw [← e_v_7]; rfl) (by decide) rfl (fun ls hl => ?_)
              refine lv_goto (tgt := 6) hx hb dX1_firstFault_83 (by decide) ?_
              exact ih _ _ _ _ _ _ _ _ hT Z (lv_sub hl [3, 1, 4, 0] rfl) k0 k1 k2
        · replace hT := mx_t hT h_4
          refine lv_iload_n hx hb dX1_firstFault_50 rfl (lv_at hl 3 rfl) ?_
          refine lv_bipush (v := (12 : Int32)) hx hb dX1_firstFault_51 (by decide) ?_
          refine lv_icmp_ge (tgt := 61) hx hb dX1_firstFault_53 (by decide) (fun h_8 => ?_) (fun h_8 => ?_)
          · replace hT := mx_t hT h_8
            refine lv_iload hx hb dX1_firstFault_61 (lv_at hl 0 rfl) ?_
            refine lv_bipush (v := (112 : Int32)) hx hb dX1_firstFault_63 (by decide) ?_
            refine lv_icmp_ne (tgt := 78) hx hb dX1_firstFault_65 (by decide) (fun h_9 => ?_) (fun h_9 => ?_)
            · replace hT := mx_f hT h_9
              cases hT
              exact k2 rfl _ _ _ Z (lv_sub hl [1, 4] rfl)
            · replace hT := mx_t hT h_9
              refine lv_iload_n hx hb dX1_firstFault_68 rfl (lv_at hl 2 rfl) ?_
              refine lv_iconst (v := (1 : Int32)) hx hb dX1_firstFault_69 (by decide) ?_
              refine lv_icmp_ne (tgt := 78) hx hb dX1_firstFault_70 (by decide) (fun h_10 => ?_) (fun h_10 => ?_)
              · replace hT := mx_f hT h_10
                cases hT
                exact k2 rfl _ _ _ Z (lv_sub hl [1, 4] rfl)
              · replace hT := mx_t hT h_10
                refine lv_iconst (v := (2 : Int32)) hx hb dX1_firstFault_73 (by decide) ?_
                refine lv_istore_n (lv' := [(1, .int ((2 : Int32))), (4, .int (q_2)), (0, .ref (mad E (241))), (2, .int (w2)), (3, .int (w3))]) hx hb dX1_firstFault_74 rfl hl (by decide) rfl (fun ls hl => ?_)
                refine lv_goto (tgt := 80) hx hb dX1_firstFault_75 (by decide) ?_
                obtain ⟨v_11, e_v_11, hT⟩ := mx_nm hT
                refine lv_iinc (v := v_11) (lv' := [(3, .int (v_11)), (1, .int ((2 : Int32))), (4, .int (q_2)), (0, .ref (mad E (241))), (2, .int (w2))]) hx hb dX1_firstFault_80 hl (k := 4) rfl (by rw [← e_v_11]; rfl) (by decide) rfl (fun ls hl => ?_)
                refine lv_goto (tgt := 6) hx hb dX1_firstFault_83 (by decide) ?_
                exact ih _ _ _ _ _ _ _ _ hT Z (lv_sub hl [3, 1, 4, 0] rfl) k0 k1 k2
          · replace hT := mx_f hT h_8
            refine lv_iconst (v := (0 : Int32)) hx hb dX1_firstFault_56 (by decide) ?_
            refine lv_istore_n (lv' := [(1, .int ((0 : Int32))), (4, .int (q_2)), (0, .ref (mad E (241))), (2, .int (w2)), (3, .int (w3))]) hx hb dX1_firstFault_57 rfl hl (by decide) rfl (fun ls hl => ?_)
            refine lv_goto (tgt := 80) hx hb dX1_firstFault_58 (by decide) ?_
            obtain ⟨v_12, e_v_12, hT⟩ := mx_nm hT
            refine lv_iinc (v := v_12) (lv' := [(3, .int (v_12)), (1, .int ((0 : Int32))), (4, .int (q_2)), (0, .ref (mad E (241))), (2, .int (w2))]) hx hb dX1_firstFault_80 hl (k := 4) rfl (by rw [← e_v_12]; rfl) (by decide) rfl (fun ls hl => ?_)
            refine lv_goto (tgt := 6) hx hb dX1_firstFault_83 (by decide) ?_
            exact ih _ _ _ _ _ _ _ _ hT Z (lv_sub hl [3, 1, 4, 0] rfl) k0 k1 k2
      · replace hT := mx_t hT h_3
        refine lv_iload hx hb dX1_firstFault_25 (lv_at hl 0 rfl) ?_
        obtain ⟨q_13, h_q_13, hT⟩ := mx_bind hT
        refine mx_callS (As := [.int (q_2)]) (rest := []) (st1 := [.int (q_13)]) X Z hl.1 (c1_isDigit l E hJ _ _ _ h_q_13) wd_5_21 wd_5_22 wd_1_13 wd_5_23 hd1_isDigit ⟨Nat.le_trans (by decide) hR.1, Nat.le_trans (by decide) hR.2⟩ ⟨Nat.zero_le _, Nat.zero_le _⟩ (Nat.le_of_ble_eq_true rfl) rfl rfl dX1_firstFault_27 (fun H locs Z => ?_)
        refine lv_if_ne (tgt := 35) hx hb dX1_firstFault_30 (by decide) (fun h_14 => ?_) (fun h_14 => ?_)
        · replace hT := mx_f hT h_14
          obtain ⟨v_15, e_v_15, hT⟩ := mx_nm hT
          refine lv_iinc (v := v_15) (lv' := [(2, .int (v_15)), (4, .int (q_2)), (0, .ref (mad E (241))), (1, .int (w1)), (3, .int (w3))]) hx hb dX1_firstFault_35 hl (k := 3) rfl (by rw [← e_v_15]; rfl) (by decide) rfl (fun ls hl => ?_)
          refine lv_iconst (v := (1 : Int32)) hx hb dX1_firstFault_38 (by decide) ?_
          refine lv_istore_n (lv' := [(1, .int ((1 : Int32))), (2, .int (v_15)), (4, .int (q_2)), (0, .ref (mad E (241))), (3, .int (w3))]) hx hb dX1_firstFault_39 rfl hl (by decide) rfl (fun ls hl => ?_)
          refine lv_goto (tgt := 80) hx hb dX1_firstFault_40 (by decide) ?_
          obtain ⟨v_16, e_v_16, hT⟩ := mx_nm hT
          refine lv_iinc (v := v_16) (lv' := [(3, .int (v_16)), (1, .int ((1 : Int32))), (2, .int (v_15)), (4, .int (q_2)), (0, .ref (mad E (241)))]) hx hb dX1_firstFault_80 hl (k := 4) rfl (by rw [← e_v_16]; rfl) (by decide) rfl (fun ls hl => ?_)
          refine lv_goto (tgt := 6) hx hb dX1_firstFault_83 (by decide) ?_
          exact ih _ _ _ _ _ _ _ _ hT Z (lv_sub hl [4, 1, 2, 0] rfl) k0 k1 k2
        · replace hT := mx_t hT h_14
          cases hT
          exact k1 rfl _ _ _ Z (lv_sub hl [1, 4] rfl)
set_option maxHeartbeats 4000000 in
set_option maxRecDepth 100000 in
theorem c1_firstFault (l : Launch) (E : mE) (hJ : mJ E) (hc : mTx E 241) (G : mM) (q : Int32) (hT : x1_firstFault G = some q) : mMet l E yX1_firstFault cX1_firstFault 5 (some .int) 1 21 [.ref (mad E (241))] G (some (.int q)) G := by
  refine Met.ofW (cc := cX1_firstFault) (maxL := 5) (ret := (some .int)) (by decide) rfl ?_
  intro p e s m args below meth cd s₁ B hml hv
  obtain ⟨rfl, hP, hK, hS⟩ := hv
  have X := mx_entry (own := RX1) B hml hK hJ hS rfl
  have hx := X.1
  have hb := X.2.1
  have hown := X.2.2.2.1
  have hts := X.2.2.2.2.1
  have hr := B.returns
  have hlocks := B.notSynchronized
  have hR : 1 ≤ (headSpec (mWs yX1_firstFault cX1_firstFault 5 (some .int)) ({ frames := 1, cells := 0, slots := 0, locals := 21 })).room.frames ∧ 21 ≤ (headSpec (mWs yX1_firstFault cX1_firstFault 5 (some .int)) ({ frames := 1, cells := 0, slots := 0, locals := 21 })).room.locals := ⟨Nat.le_refl _, Nat.le_refl _⟩
  have Z : mZ E s.heap s.heap [] G := ⟨hP, va_S.rf⟩
  have hl := lv_entry ([.ref (mad E (241))]) (n := 5) (Nat.le_of_ble_eq_true rfl)
  rw [lg_entry_eq]
  generalize (lg_sl ([.ref (mad E (241))]) ++ List.replicate (5 - (lg_sl ([.ref (mad E (241))])).length) Slot.unset).toArray = ls at hl ⊢
  have hl : lv_has ls 5 [(0, .ref (mad E (241)))] := hl
  unfold x1_firstFault at hT
  refine lv_iconst (v := (0 : Int32)) hx hb dX1_firstFault_0 (by decide) ?_
  refine lv_istore_n (lv' := [(1, .int ((0 : Int32))), (0, .ref (mad E (241)))]) hx hb dX1_firstFault_1 rfl hl (by decide) rfl (fun ls hl => ?_)
  refine lv_iconst (v := (0 : Int32)) hx hb dX1_firstFault_2 (by decide) ?_
  refine lv_istore_n (lv' := [(2, .int ((0 : Int32))), (1, .int ((0 : Int32))), (0, .ref (mad E (241)))]) hx hb dX1_firstFault_3 rfl hl (by decide) rfl (fun ls hl => ?_)
  refine lv_iconst (v := (0 : Int32)) hx hb dX1_firstFault_4 (by decide) ?_
  refine lv_istore_n (lv' := [(3, .int ((0 : Int32))), (2, .int ((0 : Int32))), (1, .int ((0 : Int32))), (0, .ref (mad E (241)))]) hx hb dX1_firstFault_5 rfl hl (by decide) rfl (fun ls hl => ?_)
  obtain ⟨q_17, h_q_17, hT⟩ := mx_bind hT
  refine k1_firstFault_6 X hR hJ hc  _ _ _ _ _ _ _ _ _ h_q_17 Z (lv_sub (l' := [(0, .ref (mad E (241))), (1, .int ((0 : Int32))), (2, .int ((0 : Int32))), (3, .int ((0 : Int32)))]) hl [3, 2, 1, 0] rfl) (fun ht H locs ls Z hl => ?_) (fun ht H locs ls Z hl => ?_) (fun ht H locs ls Z hl => ?_)
  · replace hT := mx_t hT ht
    refine lv_iload_n hx hb dX1_firstFault_86 rfl (lv_at hl 1 rfl) ?_
    refine lv_if_eq (tgt := 95) hx hb dX1_firstFault_87 (by decide) (fun h_18 => ?_) (fun h_18 => ?_)
    · replace hT := mx_t hT h_18
      refine lv_aload_n hx hb dX1_firstFault_95 rfl (lv_at hl 0 rfl) ?_
      refine mx_get (v := .int (G 241 1)) (ci := 1) (C := RX1) (T := TX1) (N := 2) X Z hc.i (hc.c _) rfl inlX1 1 (by decide) wd_4_12 rfl dX1_firstFault_96 ?_
      refine lv_goto (tgt := 103) hx hb dX1_firstFault_99 (by decide) ?_
      cases hT
      exact W.iret hx hb hr (fun t ht hW => mx_end Z t ht _) Z.2.2.2 dX1_firstFault_103
    · replace hT := mx_f hT h_18
      refine lv_iload_n hx hb dX1_firstFault_90 rfl (lv_at hl 2 rfl) ?_
      refine lv_iconst (v := (3 : Int32)) hx hb dX1_firstFault_91 (by decide) ?_
      refine lv_icmp_ge (tgt := 102) hx hb dX1_firstFault_92 (by decide) (fun h_19 => ?_) (fun h_19 => ?_)
      · replace hT := mx_t hT h_19
        refine lv_iconst (v := (-1 : Int32)) hx hb dX1_firstFault_102 (by decide) ?_
        cases hT
        exact W.iret hx hb hr (fun t ht hW => mx_end Z t ht _) Z.2.2.2 dX1_firstFault_103
      · replace hT := mx_f hT h_19
        refine lv_aload_n hx hb dX1_firstFault_95 rfl (lv_at hl 0 rfl) ?_
        refine mx_get (v := .int (G 241 1)) (ci := 1) (C := RX1) (T := TX1) (N := 2) X Z hc.i (hc.c _) rfl inlX1 1 (by decide) wd_4_12 rfl dX1_firstFault_96 ?_
        refine lv_goto (tgt := 103) hx hb dX1_firstFault_99 (by decide) ?_
        cases hT
        exact W.iret hx hb hr (fun t ht hW => mx_end Z t ht _) Z.2.2.2 dX1_firstFault_103
  · replace hT := mx_f hT (by rw [ht]; decide)
    replace hT := mx_t hT ht
    refine lv_iload_n hx hb dX1_firstFault_33 rfl (lv_at hl 1 rfl) ?_
    cases hT
    exact W.iret hx hb hr (fun t ht hW => mx_end Z t ht _) Z.2.2.2 dX1_firstFault_34
  · replace hT := mx_f hT (by rw [ht]; decide)
    replace hT := mx_f hT (by rw [ht]; decide)
    refine lv_iload_n hx hb dX1_firstFault_78 rfl (lv_at hl 1 rfl) ?_
    cases hT
    exact W.iret hx hb hr (fun t ht hW => mx_end Z t ht _) Z.2.2.2 dX1_firstFault_79
/-! PeatRailway.fault -/
def x5_fault (G : mM) : Option Int32 :=
  (x1_firstFault G).bind fun q_1 =>
  some (q_1)
theorem hd5_fault : yX5_fault.cls = RX5 ∧ yX5_fault.cls ≠ "java/lang/invoke/MethodHandle" ∧ yX5_fault.cls ≠ "java/lang/invoke/VarHandle" ∧ (parseMethodDescriptor yX5_fault.desc).map (fun d => d.parameters.length) = some 0 := by decide +kernel
set_option maxHeartbeats 4000000 in
set_option maxRecDepth 100000 in
theorem c5_fault (l : Launch) (E : mE) (hJ : mJ E) (hc : mAl E 240) (G : mM) (q : Int32) (hT : x5_fault G = some q) : mMet l E yX5_fault cX5_fault 1 (some .int) 2 45 [.ref (mad E (240))] G (some (.int q)) G := by
  refine Met.ofW (cc := cX5_fault) (maxL := 1) (ret := (some .int)) (by decide) rfl ?_
  intro p e s m args below meth cd s₁ B hml hv
  obtain ⟨rfl, hP, hK, hS⟩ := hv
  have X := mx_entry (own := RX5) B hml hK hJ hS rfl
  have hx := X.1
  have hb := X.2.1
  have hown := X.2.2.2.1
  have hts := X.2.2.2.2.1
  have hr := B.returns
  have hlocks := B.notSynchronized
  have hR : 2 ≤ (headSpec (mWs yX5_fault cX5_fault 1 (some .int)) ({ frames := 2, cells := 0, slots := 0, locals := 45 })).room.frames ∧ 45 ≤ (headSpec (mWs yX5_fault cX5_fault 1 (some .int)) ({ frames := 2, cells := 0, slots := 0, locals := 45 })).room.locals := ⟨Nat.le_refl _, Nat.le_refl _⟩
  have Z : mZ E s.heap s.heap [] G := ⟨hP, va_S.rf⟩
  have hl := lv_entry ([.ref (mad E (240))]) (n := 1) (Nat.le_of_ble_eq_true rfl)
  rw [lg_entry_eq]
  generalize (lg_sl ([.ref (mad E (240))]) ++ List.replicate (1 - (lg_sl ([.ref (mad E (240))])).length) Slot.unset).toArray = ls at hl ⊢
  have hl : lv_has ls 1 [(0, .ref (mad E (240)))] := hl
  unfold x5_fault at hT
  refine lv_aload_n hx hb dX5_fault_0 rfl (lv_at hl 0 rfl) ?_
  refine mx_get (v := .ref (mad E (241))) (ci := 5) (C := RX5) (T := TX5) (N := 6) X Z hc.i (hc.c _) rfl inlX5 0 (by decide) wd_1_17 rfl dX5_fault_1 ?_
  obtain ⟨q_1, h_q_1, hT⟩ := mx_bind hT
  refine mx_callV (As := []) (rest := []) (st1 := [.int (q_1)]) (C := RX1) (T := TX1) (N := 2) (ci := 1) X Z hl.1 (c1_firstFault l E hJ hc.tx _ _ h_q_1) wd_21_15 wd_21_16 wd_21_17 wd_1_13 wd_21_18 hd1_firstFault ⟨Nat.le_trans (by decide) hR.1, Nat.le_trans (by decide) hR.2⟩ ⟨Nat.zero_le _, Nat.zero_le _⟩ hc.tx.i (hc.tx.c _) rfl (Nat.le_of_ble_eq_true rfl) rfl rfl dX5_fault_4 (fun H locs Z => ?_)
  cases hT
  exact W.iret hx hb hr (fun t ht hW => mx_end Z t ht _) Z.2.2.2 dX5_fault_7
/-! PeatRailway$History.dropOldest -/
def x0_dropOldest_L9 (y1 : Nat) : Nat → Int32 → mM → Option (mM)
  | 0, _, _ => none
  | n + 1, w2, G =>
    if ((8 : Int32)) ≤ w2 then
      some (G)
    else
      mCk (mIn w2 8) <|
      mCk (mStP (G 244 w2.toNatClampNeg).toNatClampNeg) <|
      mCk (mIn (w2 - ((1 : Int32))) 8) <|
      mNm (up2 G 244 ((w2 - ((1 : Int32))).toNatClampNeg) (nI ((G 244 w2.toNatClampNeg).toNatClampNeg))) fun G_6 =>
      mNm (w2 + (1 : Int32)) fun v_7 =>
      x0_dropOldest_L9 y1 n v_7 G_6
def x0_dropOldest (G : mM) : Option mM :=
  mCk (mStP (G 244 0).toNatClampNeg) <|
  (x0_dropOldest_L9 ((G 244 0).toNatClampNeg) mFu ((1 : Int32)) G).bind fun q_8 =>
  mCk (mIn (((8 : Int32)) - ((1 : Int32))) 8) <|
  mNm (up2 q_8 244 ((((8 : Int32)) - ((1 : Int32))).toNatClampNeg) (nI ((G 244 0).toNatClampNeg))) fun G_10 =>
  mNm (up2 G_10 243 1 (((8 : Int32)) - ((1 : Int32)))) fun G_11 =>
  some (G_11)
theorem hd0_dropOldest : yX0_dropOldest.cls = RX0 ∧ yX0_dropOldest.cls ≠ "java/lang/invoke/MethodHandle" ∧ yX0_dropOldest.cls ≠ "java/lang/invoke/VarHandle" ∧ (parseMethodDescriptor yX0_dropOldest.desc).map (fun d => d.parameters.length) = some 0 := by decide +kernel
set_option maxHeartbeats 4000000 in
set_option maxRecDepth 100000 in
theorem k0_dropOldest_9 {p : Program} {l : Launch} {e : Env} {R : Room} {s : State} {m : MethodId} {args : Array Value} {below : List Frame} {meth : Method} {cd : Code} {Q : State → Prop} {E : mE} (X : mX p s m args cd cX0_dropOldest 3 RX0 E) (hR : 0 ≤ R.frames ∧ 0 ≤ R.locals) (hJ : mJ E) {y1 : Nat} (hy0 : mHi E 243) (hy1 : mSt E y1) : ∀ (n : Nat) (w2 : Int32) (G : mM) (H : Heap) (locs : List Loc) (ls : Array Slot) (r : mM), x0_dropOldest_L9 y1 n w2 G = some r → mZ E s.heap H locs G → lv_has ls 3 [(0, .ref (mad E (243))), (1, .ref (mad E (y1))), (2, .int (w2))] → (∀ (H : Heap) (locs : List Loc) (ls : Array Slot), mZ E s.heap H locs r → lv_has ls 3 [(0, .ref (mad E (243))), (1, .ref (mad E (y1)))] → W p l e R s m args below meth cd H locs 0 0 Q (F0 m 38 ls [])) → W p l e R s m args below meth cd H locs 0 0 Q (F0 m 9 ls []) := by
  have hx := X.1
  have hb := X.2.1
  have hown := X.2.2.2.1
  have hts := X.2.2.2.2.1
  intro n
  induction n with
  | zero =>
    intro w2 G H locs ls r hT
    rw [x0_dropOldest_L9] at hT
    cases hT
  | succ n ih =>
    intro w2 G H locs ls r hT Z hl k0
    rw [x0_dropOldest_L9] at hT
    refine lv_iload_n hx hb dX0_dropOldest_9 rfl (lv_at hl 2 rfl) ?_
    refine lv_aload_n hx hb dX0_dropOldest_10 rfl (lv_at hl 0 rfl) ?_
    refine mx_get (v := .ref (mad E (244))) (ci := 0) (C := RX0) (T := TX0) (N := 2) X Z hy0.i (hy0.c _) rfl inlX0 0 (by decide) wd_7_15 rfl dX0_dropOldest_11 ?_
    refine mx_alen (t := 3) (v := (8 : Int32)) X Z hy0.states.1 (hy0.states.2 _) rfl rfl dX0_dropOldest_14 ?_
    refine lv_icmp_ge (tgt := 38) hx hb dX0_dropOldest_15 (by decide) (fun h_2 => ?_) (fun h_2 => ?_)
    · replace hT := mx_t hT h_2
      cases hT
      exact k0 _ _ _ Z (lv_sub hl [0, 1] rfl)
    · replace hT := mx_f hT h_2
      refine lv_aload_n hx hb dX0_dropOldest_18 rfl (lv_at hl 0 rfl) ?_
      refine mx_get (v := .ref (mad E (244))) (ci := 0) (C := RX0) (T := TX0) (N := 2) X Z hy0.i (hy0.c _) rfl inlX0 0 (by decide) wd_7_15 rfl dX0_dropOldest_19 ?_
      refine lv_iload_n hx hb dX0_dropOldest_22 rfl (lv_at hl 2 rfl) ?_
      refine lv_iconst (v := (1 : Int32)) hx hb dX0_dropOldest_23 (by decide) ?_
      refine lv_isub hx hb dX0_dropOldest_24 ?_
      refine lv_aload_n hx hb dX0_dropOldest_25 rfl (lv_at hl 0 rfl) ?_
      refine mx_get (v := .ref (mad E (244))) (ci := 0) (C := RX0) (T := TX0) (N := 2) X Z hy0.i (hy0.c _) rfl inlX0 0 (by decide) wd_7_15 rfl dX0_dropOldest_26 ?_
      refine lv_iload_n hx hb dX0_dropOldest_29 rfl (lv_at hl 2 rfl) ?_
      obtain ⟨h_3, hT⟩ := mx_chk hT
      refine mx_aald (C := "PeatRailway$State") X Z hy0.states rfl h_3 dX0_dropOldest_30 ?_
      obtain ⟨h_4, hT⟩ := mx_chk hT
      refine mx_tops (s2 := [.ref (mad E ((G 244 w2.toNatClampNeg).toNatClampNeg)), .int (w2 - ((1 : Int32))), .ref (mad E (244))]) rfl ?_
      obtain ⟨h_5, hT⟩ := mx_chk hT
      obtain ⟨G_6, e_G_6, hT⟩ := mx_nm hT
      refine mx_aast X Z hy0.states (mStP.k h_4 hy0.2) h_5 dX0_dropOldest_31 (fun H locs Z => ?_)
      rw [e_G_6] at Z
      obtain ⟨v_7, e_v_7, hT⟩ := mx_nm hT
      refine lv_iinc (v := v_7) (lv' := [(2, .int (v_7)), (0, .ref (mad E (243))), (1, .ref (mad E (y1)))]) hx hb dX0_dropOldest_32 hl (k := 2) rfl (by rw [← e_v_7]; rfl) (by decide) rfl (fun ls hl => ?_)
      refine lv_goto (tgt := 9) hx hb dX0_dropOldest_35 (by decide) ?_
      exact ih _ _ _ _ _ _ hT Z (lv_sub hl [1, 2, 0] rfl) k0
set_option maxHeartbeats 4000000 in
set_option maxRecDepth 100000 in
theorem c0_dropOldest (l : Launch) (E : mE) (hJ : mJ E) (hc : mHi E 243) (G : mM) (q : mM) (hT : x0_dropOldest G = some q) : mMet l E yX0_dropOldest cX0_dropOldest 3 none 0 0 [.ref (mad E (243))] G (none) q := by
  refine Met.ofW (cc := cX0_dropOldest) (maxL := 3) (ret := none) (by decide) rfl ?_
  intro p e s m args below meth cd s₁ B hml hv
  obtain ⟨rfl, hP, hK, hS⟩ := hv
  have X := mx_entry (own := RX0) B hml hK hJ hS rfl
  have hx := X.1
  have hb := X.2.1
  have hown := X.2.2.2.1
  have hts := X.2.2.2.2.1
  have hr := B.returns
  have hlocks := B.notSynchronized
  have hR : 0 ≤ (headSpec (mWs yX0_dropOldest cX0_dropOldest 3 none) ({ frames := 0, cells := 0, slots := 0, locals := 0 })).room.frames ∧ 0 ≤ (headSpec (mWs yX0_dropOldest cX0_dropOldest 3 none) ({ frames := 0, cells := 0, slots := 0, locals := 0 })).room.locals := ⟨Nat.le_refl _, Nat.le_refl _⟩
  have Z : mZ E s.heap s.heap [] G := ⟨hP, va_S.rf⟩
  have hl := lv_entry ([.ref (mad E (243))]) (n := 3) (Nat.le_of_ble_eq_true rfl)
  rw [lg_entry_eq]
  generalize (lg_sl ([.ref (mad E (243))]) ++ List.replicate (3 - (lg_sl ([.ref (mad E (243))])).length) Slot.unset).toArray = ls at hl ⊢
  have hl : lv_has ls 3 [(0, .ref (mad E (243)))] := hl
  unfold x0_dropOldest at hT
  refine lv_aload_n hx hb dX0_dropOldest_0 rfl (lv_at hl 0 rfl) ?_
  refine mx_get (v := .ref (mad E (244))) (ci := 0) (C := RX0) (T := TX0) (N := 2) X Z hc.i (hc.c _) rfl inlX0 0 (by decide) wd_7_15 rfl dX0_dropOldest_1 ?_
  refine lv_iconst (v := (0 : Int32)) hx hb dX0_dropOldest_4 (by decide) ?_
  refine mx_aald (C := "PeatRailway$State") X Z hc.states rfl (mx_lit (by decide)) dX0_dropOldest_5 ?_
  obtain ⟨h_1, hT⟩ := mx_chk hT
  refine mx_tops (s2 := [.ref (mad E ((G 244 0).toNatClampNeg))]) rfl ?_
  refine lv_astore_n (lv' := [(1, .ref (mad E ((G 244 0).toNatClampNeg))), (0, .ref (mad E (243)))]) hx hb dX0_dropOldest_6 rfl hl (by decide) rfl (fun ls hl => ?_)
  refine lv_iconst (v := (1 : Int32)) hx hb dX0_dropOldest_7 (by decide) ?_
  refine lv_istore_n (lv' := [(2, .int ((1 : Int32))), (1, .ref (mad E ((G 244 0).toNatClampNeg))), (0, .ref (mad E (243)))]) hx hb dX0_dropOldest_8 rfl hl (by decide) rfl (fun ls hl => ?_)
  obtain ⟨q_8, h_q_8, hT⟩ := mx_bind hT
  refine k0_dropOldest_9 X hR hJ hc (mStP.k h_1 hc.2)  _ _ _ _ _ _ _ h_q_8 Z (lv_sub (l' := [(0, .ref (mad E (243))), (1, .ref (mad E ((G 244 0).toNatClampNeg))), (2, .int ((1 : Int32)))]) hl [2, 1, 0] rfl) (fun H locs ls Z hl => ?_)
  · refine lv_aload_n hx hb dX0_dropOldest_38 rfl (lv_at hl 0 rfl) ?_
    refine mx_get (v := .ref (mad E (244))) (ci := 0) (C := RX0) (T := TX0) (N := 2) X Z hc.i (hc.c _) rfl inlX0 0 (by decide) wd_7_15 rfl dX0_dropOldest_39 ?_
    refine lv_aload_n hx hb dX0_dropOldest_42 rfl (lv_at hl 0 rfl) ?_
    refine mx_get (v := .ref (mad E (244))) (ci := 0) (C := RX0) (T := TX0) (N := 2) X Z hc.i (hc.c _) rfl inlX0 0 (by decide) wd_7_15 rfl dX0_dropOldest_43 ?_
    refine mx_alen (t := 3) (v := (8 : Int32)) X Z hc.states.1 (hc.states.2 _) rfl rfl dX0_dropOldest_46 ?_
    refine lv_iconst (v := (1 : Int32)) hx hb dX0_dropOldest_47 (by decide) ?_
    refine lv_isub hx hb dX0_dropOldest_48 ?_
    refine lv_aload_n hx hb dX0_dropOldest_49 rfl (lv_at hl 1 rfl) ?_
    obtain ⟨h_9, hT⟩ := mx_chk hT
    obtain ⟨G_10, e_G_10, hT⟩ := mx_nm hT
    refine mx_aast X Z hc.states (mStP.k h_1 hc.2) h_9 dX0_dropOldest_50 (fun H locs Z => ?_)
    rw [e_G_10] at Z
    refine lv_aload_n hx hb dX0_dropOldest_51 rfl (lv_at hl 0 rfl) ?_
    refine lv_aload_n hx hb dX0_dropOldest_52 rfl (lv_at hl 0 rfl) ?_
    refine mx_get (v := .ref (mad E (244))) (ci := 0) (C := RX0) (T := TX0) (N := 2) X Z hc.i (hc.c _) rfl inlX0 0 (by decide) wd_7_15 rfl dX0_dropOldest_53 ?_
    refine mx_alen (t := 3) (v := (8 : Int32)) X Z hc.states.1 (hc.states.2 _) rfl rfl dX0_dropOldest_56 ?_
    refine lv_iconst (v := (1 : Int32)) hx hb dX0_dropOldest_57 (by decide) ?_
    refine lv_isub hx hb dX0_dropOldest_58 ?_
    obtain ⟨G_11, e_G_11, hT⟩ := mx_nm hT
    refine mx_put (ci := 0) (C := RX0) (T := TX0) (N := 2) X Z hc.i (hc.c _) rfl inlX0 tyX0 tyX0_ok nmX0 1 (by decide) wd_8_1 rfl rfl rfl (by show 1 < 2; decide) ((hc.c _).trans (congrArg (fun z => Sum.inr (0, z)) (sp_Hi_1 (mad E) _ _ _))) dX0_dropOldest_59 (fun H locs Z => ?_)
    rw [e_G_11] at Z
    cases hT
    exact W.vret hx hb hr (fun t ht hW => mx_end Z t ht _) Z.2.2.2 dX0_dropOldest_62
/-! PeatRailway$Segment.copyFrom -/
def x2_copyFrom (c : Nat) (d1 : Nat) (G : mM) : Option mM :=
  mNm (up2 G c 0 (G d1 0)) fun G_1 =>
  mNm (up2 G_1 c 1 (G_1 d1 1)) fun G_2 =>
  mNm (up2 G_2 c 2 (G_2 d1 2)) fun G_3 =>
  mNm (up2 G_3 c 3 (G_3 d1 3)) fun G_4 =>
  mNm (up2 G_4 c 4 (G_4 d1 4)) fun G_5 =>
  some (G_5)
theorem hd2_copyFrom : yX2_copyFrom.cls = RX2 ∧ yX2_copyFrom.cls ≠ "java/lang/invoke/MethodHandle" ∧ yX2_copyFrom.cls ≠ "java/lang/invoke/VarHandle" ∧ (parseMethodDescriptor yX2_copyFrom.desc).map (fun d => d.parameters.length) = some 1 := by decide +kernel
set_option maxHeartbeats 4000000 in
set_option maxRecDepth 100000 in
theorem c2_copyFrom (l : Launch) (E : mE) (hJ : mJ E) {c : Nat} {d1 : Nat} (hc : mSg E c) (hd1 : mSg E d1) (G : mM) (q : mM) (hT : x2_copyFrom c d1 G = some q) : mMet l E yX2_copyFrom cX2_copyFrom 2 none 0 0 [.ref (mad E (c)), .ref (mad E (d1))] G (none) q := by
  refine Met.ofW (cc := cX2_copyFrom) (maxL := 2) (ret := none) (by decide) rfl ?_
  intro p e s m args below meth cd s₁ B hml hv
  obtain ⟨rfl, hP, hK, hS⟩ := hv
  have X := mx_entry (own := RX2) B hml hK hJ hS rfl
  have hx := X.1
  have hb := X.2.1
  have hown := X.2.2.2.1
  have hts := X.2.2.2.2.1
  have hr := B.returns
  have hlocks := B.notSynchronized
  have hR : 0 ≤ (headSpec (mWs yX2_copyFrom cX2_copyFrom 2 none) ({ frames := 0, cells := 0, slots := 0, locals := 0 })).room.frames ∧ 0 ≤ (headSpec (mWs yX2_copyFrom cX2_copyFrom 2 none) ({ frames := 0, cells := 0, slots := 0, locals := 0 })).room.locals := ⟨Nat.le_refl _, Nat.le_refl _⟩
  have Z : mZ E s.heap s.heap [] G := ⟨hP, va_S.rf⟩
  have hl := lv_entry ([.ref (mad E (c)), .ref (mad E (d1))]) (n := 2) (Nat.le_of_ble_eq_true rfl)
  rw [lg_entry_eq]
  generalize (lg_sl ([.ref (mad E (c)), .ref (mad E (d1))]) ++ List.replicate (2 - (lg_sl ([.ref (mad E (c)), .ref (mad E (d1))])).length) Slot.unset).toArray = ls at hl ⊢
  have hl : lv_has ls 2 [(0, .ref (mad E (c))), (1, .ref (mad E (d1)))] := hl
  unfold x2_copyFrom at hT
  refine lv_aload_n hx hb dX2_copyFrom_0 rfl (lv_at hl 0 rfl) ?_
  refine lv_aload_n hx hb dX2_copyFrom_1 rfl (lv_at hl 1 rfl) ?_
  refine mx_get (v := .int (G d1 0)) (ci := 2) (C := RX2) (T := TX2) (N := 6) X Z hd1.i (hd1.c _) rfl inlX2 0 (by decide) wd_6_12 rfl dX2_copyFrom_2 ?_
  obtain ⟨G_1, e_G_1, hT⟩ := mx_nm hT
  refine mx_put (ci := 2) (C := RX2) (T := TX2) (N := 6) X Z hc.i (hc.c _) rfl inlX2 tyX2 tyX2_ok nmX2 0 (by decide) wd_6_12 rfl rfl rfl (by show 0 < 6; decide) ((hc.c _).trans (congrArg (fun z => Sum.inr (2, z)) (sp_Sg_0 _ _ _))) dX2_copyFrom_5 (fun H locs Z => ?_)
  rw [e_G_1] at Z
  refine lv_aload_n hx hb dX2_copyFrom_8 rfl (lv_at hl 0 rfl) ?_
  refine lv_aload_n hx hb dX2_copyFrom_9 rfl (lv_at hl 1 rfl) ?_
  refine mx_get (v := .int (G_1 d1 1)) (ci := 2) (C := RX2) (T := TX2) (N := 6) X Z hd1.i (hd1.c _) rfl inlX2 1 (by decide) wd_6_13 rfl dX2_copyFrom_10 ?_
  obtain ⟨G_2, e_G_2, hT⟩ := mx_nm hT
  refine mx_put (ci := 2) (C := RX2) (T := TX2) (N := 6) X Z hc.i (hc.c _) rfl inlX2 tyX2 tyX2_ok nmX2 1 (by decide) wd_6_13 rfl rfl rfl (by show 1 < 6; decide) ((hc.c _).trans (congrArg (fun z => Sum.inr (2, z)) (sp_Sg_1 _ _ _))) dX2_copyFrom_13 (fun H locs Z => ?_)
  rw [e_G_2] at Z
  refine lv_aload_n hx hb dX2_copyFrom_16 rfl (lv_at hl 0 rfl) ?_
  refine lv_aload_n hx hb dX2_copyFrom_17 rfl (lv_at hl 1 rfl) ?_
  refine mx_get (v := .int (G_2 d1 2)) (ci := 2) (C := RX2) (T := TX2) (N := 6) X Z hd1.i (hd1.c _) rfl inlX2 2 (by decide) wd_6_14 rfl dX2_copyFrom_18 ?_
  obtain ⟨G_3, e_G_3, hT⟩ := mx_nm hT
  refine mx_put (ci := 2) (C := RX2) (T := TX2) (N := 6) X Z hc.i (hc.c _) rfl inlX2 tyX2 tyX2_ok nmX2 2 (by decide) wd_6_14 rfl rfl rfl (by show 2 < 6; decide) ((hc.c _).trans (congrArg (fun z => Sum.inr (2, z)) (sp_Sg_2 _ _ _))) dX2_copyFrom_21 (fun H locs Z => ?_)
  rw [e_G_3] at Z
  refine lv_aload_n hx hb dX2_copyFrom_24 rfl (lv_at hl 0 rfl) ?_
  refine lv_aload_n hx hb dX2_copyFrom_25 rfl (lv_at hl 1 rfl) ?_
  refine mx_get (v := .int (G_3 d1 3)) (ci := 2) (C := RX2) (T := TX2) (N := 6) X Z hd1.i (hd1.c _) rfl inlX2 3 (by decide) wd_8_20 rfl dX2_copyFrom_26 ?_
  obtain ⟨G_4, e_G_4, hT⟩ := mx_nm hT
  refine mx_put (ci := 2) (C := RX2) (T := TX2) (N := 6) X Z hc.i (hc.c _) rfl inlX2 tyX2 tyX2_ok nmX2 3 (by decide) wd_8_20 rfl rfl rfl (by show 3 < 6; decide) ((hc.c _).trans (congrArg (fun z => Sum.inr (2, z)) (sp_Sg_3 _ _ _))) dX2_copyFrom_29 (fun H locs Z => ?_)
  rw [e_G_4] at Z
  refine lv_aload_n hx hb dX2_copyFrom_32 rfl (lv_at hl 0 rfl) ?_
  refine lv_aload_n hx hb dX2_copyFrom_33 rfl (lv_at hl 1 rfl) ?_
  refine mx_get (v := .int (G_4 d1 4)) (ci := 2) (C := RX2) (T := TX2) (N := 6) X Z hd1.i (hd1.c _) rfl inlX2 4 (by decide) wd_8_21 rfl dX2_copyFrom_34 ?_
  obtain ⟨G_5, e_G_5, hT⟩ := mx_nm hT
  refine mx_put (ci := 2) (C := RX2) (T := TX2) (N := 6) X Z hc.i (hc.c _) rfl inlX2 tyX2 tyX2_ok nmX2 4 (by decide) wd_8_21 rfl rfl rfl (by show 4 < 6; decide) ((hc.c _).trans (congrArg (fun z => Sum.inr (2, z)) (sp_Sg_4 _ _ _))) dX2_copyFrom_37 (fun H locs Z => ?_)
  rw [e_G_5] at Z
  cases hT
  exact W.vret hx hb hr (fun t ht hW => mx_end Z t ht _) Z.2.2.2 dX2_copyFrom_40
/-! PeatRailway$Train.copyFrom -/
def x4_copyFrom (c : Nat) (d1 : Nat) (G : mM) : Option mM :=
  mNm (up2 G c 0 (G d1 0)) fun G_1 =>
  mNm (up2 G_1 c 1 (G_1 d1 1)) fun G_2 =>
  mNm (up2 G_2 c 2 (G_2 d1 2)) fun G_3 =>
  mNm (up2 G_3 c 3 (G_3 d1 3)) fun G_4 =>
  mCk (mBl (G_4 d1 4)) <|
  mNm (up2 G_4 c 4 (G_4 d1 4)) fun G_6 =>
  mNm (up2 G_6 c 5 (G_6 d1 5)) fun G_7 =>
  mNm (up2 G_7 c 6 (G_7 d1 6)) fun G_8 =>
  mNm (up2 G_8 c 7 (G_8 d1 7)) fun G_9 =>
  mNm (up2 G_9 c 8 (G_9 d1 8)) fun G_10 =>
  some (G_10)
theorem hd4_copyFrom : yX4_copyFrom.cls = RX4 ∧ yX4_copyFrom.cls ≠ "java/lang/invoke/MethodHandle" ∧ yX4_copyFrom.cls ≠ "java/lang/invoke/VarHandle" ∧ (parseMethodDescriptor yX4_copyFrom.desc).map (fun d => d.parameters.length) = some 1 := by decide +kernel
set_option maxHeartbeats 4000000 in
set_option maxRecDepth 100000 in
theorem c4_copyFrom (l : Launch) (E : mE) (hJ : mJ E) {c : Nat} {d1 : Nat} (hc : mTr E c) (hd1 : mTr E d1) (G : mM) (q : mM) (hT : x4_copyFrom c d1 G = some q) : mMet l E yX4_copyFrom cX4_copyFrom 2 none 0 0 [.ref (mad E (c)), .ref (mad E (d1))] G (none) q := by
  refine Met.ofW (cc := cX4_copyFrom) (maxL := 2) (ret := none) (by decide) rfl ?_
  intro p e s m args below meth cd s₁ B hml hv
  obtain ⟨rfl, hP, hK, hS⟩ := hv
  have X := mx_entry (own := RX4) B hml hK hJ hS rfl
  have hx := X.1
  have hb := X.2.1
  have hown := X.2.2.2.1
  have hts := X.2.2.2.2.1
  have hr := B.returns
  have hlocks := B.notSynchronized
  have hR : 0 ≤ (headSpec (mWs yX4_copyFrom cX4_copyFrom 2 none) ({ frames := 0, cells := 0, slots := 0, locals := 0 })).room.frames ∧ 0 ≤ (headSpec (mWs yX4_copyFrom cX4_copyFrom 2 none) ({ frames := 0, cells := 0, slots := 0, locals := 0 })).room.locals := ⟨Nat.le_refl _, Nat.le_refl _⟩
  have Z : mZ E s.heap s.heap [] G := ⟨hP, va_S.rf⟩
  have hl := lv_entry ([.ref (mad E (c)), .ref (mad E (d1))]) (n := 2) (Nat.le_of_ble_eq_true rfl)
  rw [lg_entry_eq]
  generalize (lg_sl ([.ref (mad E (c)), .ref (mad E (d1))]) ++ List.replicate (2 - (lg_sl ([.ref (mad E (c)), .ref (mad E (d1))])).length) Slot.unset).toArray = ls at hl ⊢
  have hl : lv_has ls 2 [(0, .ref (mad E (c))), (1, .ref (mad E (d1)))] := hl
  unfold x4_copyFrom at hT
  refine lv_aload_n hx hb dX4_copyFrom_0 rfl (lv_at hl 0 rfl) ?_
  refine lv_aload_n hx hb dX4_copyFrom_1 rfl (lv_at hl 1 rfl) ?_
  refine mx_get (v := .int (G d1 0)) (ci := 4) (C := RX4) (T := TX4) (N := 10) X Z hd1.i (hd1.c _) rfl inlX4 0 (by decide) wd_9_2 rfl dX4_copyFrom_2 ?_
  obtain ⟨G_1, e_G_1, hT⟩ := mx_nm hT
  refine mx_put (ci := 4) (C := RX4) (T := TX4) (N := 10) X Z hc.i (hc.c _) rfl inlX4 tyX4 tyX4_ok nmX4 0 (by decide) wd_9_2 rfl rfl rfl (by show 0 < 10; decide) ((hc.c _).trans (congrArg (fun z => Sum.inr (4, z)) (sp_Tr_0 _ _ _))) dX4_copyFrom_5 (fun H locs Z => ?_)
  rw [e_G_1] at Z
  refine lv_aload_n hx hb dX4_copyFrom_8 rfl (lv_at hl 0 rfl) ?_
  refine lv_aload_n hx hb dX4_copyFrom_9 rfl (lv_at hl 1 rfl) ?_
  refine mx_get (v := .int (G_1 d1 1)) (ci := 4) (C := RX4) (T := TX4) (N := 10) X Z hd1.i (hd1.c _) rfl inlX4 1 (by decide) wd_9_3 rfl dX4_copyFrom_10 ?_
  obtain ⟨G_2, e_G_2, hT⟩ := mx_nm hT
  refine mx_put (ci := 4) (C := RX4) (T := TX4) (N := 10) X Z hc.i (hc.c _) rfl inlX4 tyX4 tyX4_ok nmX4 1 (by decide) wd_9_3 rfl rfl rfl (by show 1 < 10; decide) ((hc.c _).trans (congrArg (fun z => Sum.inr (4, z)) (sp_Tr_1 _ _ _))) dX4_copyFrom_13 (fun H locs Z => ?_)
  rw [e_G_2] at Z
  refine lv_aload_n hx hb dX4_copyFrom_16 rfl (lv_at hl 0 rfl) ?_
  refine lv_aload_n hx hb dX4_copyFrom_17 rfl (lv_at hl 1 rfl) ?_
  refine mx_get (v := .int (G_2 d1 2)) (ci := 4) (C := RX4) (T := TX4) (N := 10) X Z hd1.i (hd1.c _) rfl inlX4 2 (by decide) wd_9_4 rfl dX4_copyFrom_18 ?_
  obtain ⟨G_3, e_G_3, hT⟩ := mx_nm hT
  refine mx_put (ci := 4) (C := RX4) (T := TX4) (N := 10) X Z hc.i (hc.c _) rfl inlX4 tyX4 tyX4_ok nmX4 2 (by decide) wd_9_4 rfl rfl rfl (by show 2 < 10; decide) ((hc.c _).trans (congrArg (fun z => Sum.inr (4, z)) (sp_Tr_2 _ _ _))) dX4_copyFrom_21 (fun H locs Z => ?_)
  rw [e_G_3] at Z
  refine lv_aload_n hx hb dX4_copyFrom_24 rfl (lv_at hl 0 rfl) ?_
  refine lv_aload_n hx hb dX4_copyFrom_25 rfl (lv_at hl 1 rfl) ?_
  refine mx_get (v := .int (G_3 d1 3)) (ci := 4) (C := RX4) (T := TX4) (N := 10) X Z hd1.i (hd1.c _) rfl inlX4 3 (by decide) wd_9_5 rfl dX4_copyFrom_26 ?_
  obtain ⟨G_4, e_G_4, hT⟩ := mx_nm hT
  refine mx_put (ci := 4) (C := RX4) (T := TX4) (N := 10) X Z hc.i (hc.c _) rfl inlX4 tyX4 tyX4_ok nmX4 3 (by decide) wd_9_5 rfl rfl rfl (by show 3 < 10; decide) ((hc.c _).trans (congrArg (fun z => Sum.inr (4, z)) (sp_Tr_3 _ _ _))) dX4_copyFrom_29 (fun H locs Z => ?_)
  rw [e_G_4] at Z
  refine lv_aload_n hx hb dX4_copyFrom_32 rfl (lv_at hl 0 rfl) ?_
  refine lv_aload_n hx hb dX4_copyFrom_33 rfl (lv_at hl 1 rfl) ?_
  refine mx_get (v := .int (G_4 d1 4)) (ci := 4) (C := RX4) (T := TX4) (N := 10) X Z hd1.i (hd1.c _) rfl inlX4 4 (by decide) wd_9_6 rfl dX4_copyFrom_34 ?_
  obtain ⟨h_5, hT⟩ := mx_chk hT
  obtain ⟨G_6, e_G_6, hT⟩ := mx_nm hT
  refine mx_put (ci := 4) (C := RX4) (T := TX4) (N := 10) X Z hc.i (hc.c _) rfl inlX4 tyX4 tyX4_ok nmX4 4 (by decide) wd_9_6 rfl (mBl.n h_5) (mBl.f h_5) (by show 4 < 10; decide) ((hc.c _).trans (congrArg (fun z => Sum.inr (4, z)) (sp_Tr_4 _ _ _))) dX4_copyFrom_37 (fun H locs Z => ?_)
  rw [e_G_6] at Z
  refine lv_aload_n hx hb dX4_copyFrom_40 rfl (lv_at hl 0 rfl) ?_
  refine lv_aload_n hx hb dX4_copyFrom_41 rfl (lv_at hl 1 rfl) ?_
  refine mx_get (v := .int (G_6 d1 5)) (ci := 4) (C := RX4) (T := TX4) (N := 10) X Z hd1.i (hd1.c _) rfl inlX4 5 (by decide) wd_9_7 rfl dX4_copyFrom_42 ?_
  obtain ⟨G_7, e_G_7, hT⟩ := mx_nm hT
  refine mx_put (ci := 4) (C := RX4) (T := TX4) (N := 10) X Z hc.i (hc.c _) rfl inlX4 tyX4 tyX4_ok nmX4 5 (by decide) wd_9_7 rfl rfl rfl (by show 5 < 10; decide) ((hc.c _).trans (congrArg (fun z => Sum.inr (4, z)) (sp_Tr_5 _ _ _))) dX4_copyFrom_45 (fun H locs Z => ?_)
  rw [e_G_7] at Z
  refine lv_aload_n hx hb dX4_copyFrom_48 rfl (lv_at hl 0 rfl) ?_
  refine lv_aload_n hx hb dX4_copyFrom_49 rfl (lv_at hl 1 rfl) ?_
  refine mx_get (v := .int (G_7 d1 6)) (ci := 4) (C := RX4) (T := TX4) (N := 10) X Z hd1.i (hd1.c _) rfl inlX4 6 (by decide) wd_9_8 rfl dX4_copyFrom_50 ?_
  obtain ⟨G_8, e_G_8, hT⟩ := mx_nm hT
  refine mx_put (ci := 4) (C := RX4) (T := TX4) (N := 10) X Z hc.i (hc.c _) rfl inlX4 tyX4 tyX4_ok nmX4 6 (by decide) wd_9_8 rfl rfl rfl (by show 6 < 10; decide) ((hc.c _).trans (congrArg (fun z => Sum.inr (4, z)) (sp_Tr_6 _ _ _))) dX4_copyFrom_53 (fun H locs Z => ?_)
  rw [e_G_8] at Z
  refine lv_aload_n hx hb dX4_copyFrom_56 rfl (lv_at hl 0 rfl) ?_
  refine lv_aload_n hx hb dX4_copyFrom_57 rfl (lv_at hl 1 rfl) ?_
  refine mx_get (v := .int (G_8 d1 7)) (ci := 4) (C := RX4) (T := TX4) (N := 10) X Z hd1.i (hd1.c _) rfl inlX4 7 (by decide) wd_9_9 rfl dX4_copyFrom_58 ?_
  obtain ⟨G_9, e_G_9, hT⟩ := mx_nm hT
  refine mx_put (ci := 4) (C := RX4) (T := TX4) (N := 10) X Z hc.i (hc.c _) rfl inlX4 tyX4 tyX4_ok nmX4 7 (by decide) wd_9_9 rfl rfl rfl (by show 7 < 10; decide) ((hc.c _).trans (congrArg (fun z => Sum.inr (4, z)) (sp_Tr_7 _ _ _))) dX4_copyFrom_61 (fun H locs Z => ?_)
  rw [e_G_9] at Z
  refine lv_aload_n hx hb dX4_copyFrom_64 rfl (lv_at hl 0 rfl) ?_
  refine lv_aload_n hx hb dX4_copyFrom_65 rfl (lv_at hl 1 rfl) ?_
  refine mx_get (v := .int (G_9 d1 8)) (ci := 4) (C := RX4) (T := TX4) (N := 10) X Z hd1.i (hd1.c _) rfl inlX4 8 (by decide) wd_9_10 rfl dX4_copyFrom_66 ?_
  obtain ⟨G_10, e_G_10, hT⟩ := mx_nm hT
  refine mx_put (ci := 4) (C := RX4) (T := TX4) (N := 10) X Z hc.i (hc.c _) rfl inlX4 tyX4 tyX4_ok nmX4 8 (by decide) wd_9_10 rfl rfl rfl (by show 8 < 10; decide) ((hc.c _).trans (congrArg (fun z => Sum.inr (4, z)) (sp_Tr_8 _ _ _))) dX4_copyFrom_69 (fun H locs Z => ?_)
  rw [e_G_10] at Z
  cases hT
  exact W.vret hx hb hr (fun t ht hW => mx_end Z t ht _) Z.2.2.2 dX4_copyFrom_72
/-! PeatRailway$State.copyFrom -/
def x3_copyFrom_L10 (y0 : Nat) (y1 : Nat) : Nat → Int32 → mM → Option (mM)
  | 0, _, _ => none
  | n + 1, w2, G =>
    if ((12 : Int32)) ≤ w2 then
      some (G)
    else
      if ((12 : Int32)) ≤ w2 then
        some (G)
      else
        mCk (mIn w2 12) <|
        mCk (mIn w2 12) <|
        (x2_copyFrom (y0 + 4 + w2.toNatClampNeg) (y1 + 4 + w2.toNatClampNeg) G).bind fun q_6 =>
        mNm (w2 + (1 : Int32)) fun v_7 =>
        x3_copyFrom_L10 y0 y1 n v_7 q_6
def x3_copyFrom_L59 (y0 : Nat) (y1 : Nat) : Nat → Int32 → mM → Option (mM)
  | 0, _, _ => none
  | n + 1, w2, G =>
    if ((4 : Int32)) ≤ w2 then
      some (G)
    else
      if ((4 : Int32)) ≤ w2 then
        some (G)
      else
        mCk (mIn w2 4) <|
        mCk (mIn w2 4) <|
        (x4_copyFrom (y0 + 16 + w2.toNatClampNeg) (y1 + 16 + w2.toNatClampNeg) G).bind fun q_14 =>
        mNm (w2 + (1 : Int32)) fun v_15 =>
        x3_copyFrom_L59 y0 y1 n v_15 q_14
def x3_copyFrom_L100 (y0 : Nat) (y1 : Nat) : Nat → Int32 → mM → Option (mM)
  | 0, _, _ => none
  | n + 1, w2, G =>
    if ((3 : Int32)) ≤ w2 then
      some (G)
    else
      if ((3 : Int32)) ≤ w2 then
        some (G)
      else
        mCk (mIn w2 3) <|
        mCk (mIn w2 3) <|
        mNm (up2 G ((y0 + 3)) w2.toNatClampNeg (G ((y1 + 3)) w2.toNatClampNeg)) fun G_21 =>
        mNm (w2 + (1 : Int32)) fun v_22 =>
        x3_copyFrom_L100 y0 y1 n v_22 G_21
def x3_copyFrom (c : Nat) (d1 : Nat) (G : mM) : Option mM :=
  mNm (up2 G c 3 (G d1 3)) fun G_1 =>
  (x3_copyFrom_L10 c d1 mFu ((0 : Int32)) G_1).bind fun q_8 =>
  mNm (up2 q_8 c 4 (q_8 d1 4)) fun G_9 =>
  (x3_copyFrom_L59 c d1 mFu ((0 : Int32)) G_9).bind fun q_16 =>
  (x3_copyFrom_L100 c d1 mFu ((0 : Int32)) q_16).bind fun q_23 =>
  mNm (up2 q_23 c 5 (q_23 d1 5)) fun G_24 =>
  mNm (up2 G_24 c 6 (G_24 d1 6)) fun G_25 =>
  mNm (up2 G_25 c 7 (G_25 d1 7)) fun G_26 =>
  mNm (up2 G_26 c 8 (G_26 d1 8)) fun G_27 =>
  mNm (up2 G_27 c 9 (G_27 d1 9)) fun G_28 =>
  some (G_28)
theorem hd3_copyFrom : yX3_copyFrom.cls = RX3 ∧ yX3_copyFrom.cls ≠ "java/lang/invoke/MethodHandle" ∧ yX3_copyFrom.cls ≠ "java/lang/invoke/VarHandle" ∧ (parseMethodDescriptor yX3_copyFrom.desc).map (fun d => d.parameters.length) = some 1 := by decide +kernel
set_option maxHeartbeats 4000000 in
set_option maxRecDepth 100000 in
theorem k3_copyFrom_10 {p : Program} {l : Launch} {e : Env} {R : Room} {s : State} {m : MethodId} {args : Array Value} {below : List Frame} {meth : Method} {cd : Code} {Q : State → Prop} {E : mE} (X : mX p s m args cd cX3_copyFrom 3 RX3 E) (hR : 1 ≤ R.frames ∧ 21 ≤ R.locals) (hJ : mJ E) {y0 : Nat} {y1 : Nat} (hy0 : mSt E y0) (hy1 : mSt E y1) : ∀ (n : Nat) (w2 : Int32) (G : mM) (H : Heap) (locs : List Loc) (ls : Array Slot) (r : mM), x3_copyFrom_L10 y0 y1 n w2 G = some r → mZ E s.heap H locs G → lv_has ls 3 [(0, .ref (mad E (y0))), (1, .ref (mad E (y1))), (2, .int (w2))] → (∀ (H : Heap) (locs : List Loc) (ls : Array Slot), mZ E s.heap H locs r → lv_has ls 3 [(0, .ref (mad E (y0))), (1, .ref (mad E (y1)))] → W p l e R s m args below meth cd H locs 0 0 Q (F0 m 49 ls [])) → W p l e R s m args below meth cd H locs 0 0 Q (F0 m 10 ls []) := by
  have hx := X.1
  have hb := X.2.1
  have hown := X.2.2.2.1
  have hts := X.2.2.2.2.1
  intro n
  induction n with
  | zero =>
    intro w2 G H locs ls r hT
    rw [x3_copyFrom_L10] at hT
    cases hT
  | succ n ih =>
    intro w2 G H locs ls r hT Z hl k0
    rw [x3_copyFrom_L10] at hT
    refine lv_iload_n hx hb dX3_copyFrom_10 rfl (lv_at hl 2 rfl) ?_
    refine lv_aload_n hx hb dX3_copyFrom_11 rfl (lv_at hl 0 rfl) ?_
    refine mx_get (v := .ref (mad E ((y0 + 1)))) (ci := 3) (C := RX3) (T := TX3) (N := 11) X Z hy0.i (hy0.c _) rfl inlX3 0 (by decide) wd_4_18 rfl dX3_copyFrom_12 ?_
    refine mx_alen (t := 2) (v := (12 : Int32)) X Z hy0.segs.1 (hy0.segs.2 _) rfl rfl dX3_copyFrom_15 ?_
    refine lv_icmp_ge (tgt := 49) hx hb dX3_copyFrom_16 (by decide) (fun h_2 => ?_) (fun h_2 => ?_)
    · replace hT := mx_t hT h_2
      cases hT
      exact k0 _ _ _ Z (lv_sub hl [0, 1] rfl)
    · replace hT := mx_f hT h_2
      refine lv_iload_n hx hb dX3_copyFrom_19 rfl (lv_at hl 2 rfl) ?_
      refine lv_aload_n hx hb dX3_copyFrom_20 rfl (lv_at hl 1 rfl) ?_
      refine mx_get (v := .ref (mad E ((y1 + 1)))) (ci := 3) (C := RX3) (T := TX3) (N := 11) X Z hy1.i (hy1.c _) rfl inlX3 0 (by decide) wd_4_18 rfl dX3_copyFrom_21 ?_
      refine mx_alen (t := 2) (v := (12 : Int32)) X Z hy1.segs.1 (hy1.segs.2 _) rfl rfl dX3_copyFrom_24 ?_
      refine lv_icmp_ge (tgt := 49) hx hb dX3_copyFrom_25 (by decide) (fun h_3 => ?_) (fun h_3 => ?_)
      · replace hT := mx_t hT h_3
        cases hT
        exact k0 _ _ _ Z (lv_sub hl [0, 1] rfl)
      · replace hT := mx_f hT h_3
        refine lv_aload_n hx hb dX3_copyFrom_28 rfl (lv_at hl 0 rfl) ?_
        refine mx_get (v := .ref (mad E ((y0 + 1)))) (ci := 3) (C := RX3) (T := TX3) (N := 11) X Z hy0.i (hy0.c _) rfl inlX3 0 (by decide) wd_4_18 rfl dX3_copyFrom_29 ?_
        refine lv_iload_n hx hb dX3_copyFrom_32 rfl (lv_at hl 2 rfl) ?_
        obtain ⟨h_4, hT⟩ := mx_chk hT
        refine mx_aald (C := "PeatRailway$Segment") X Z hy0.segs rfl h_4 dX3_copyFrom_33 ?_
        refine mx_tops (s2 := [.ref (mad E (y0 + 4 + w2.toNatClampNeg))]) rfl ?_
        refine lv_aload_n hx hb dX3_copyFrom_34 rfl (lv_at hl 1 rfl) ?_
        refine mx_get (v := .ref (mad E ((y1 + 1)))) (ci := 3) (C := RX3) (T := TX3) (N := 11) X Z hy1.i (hy1.c _) rfl inlX3 0 (by decide) wd_4_18 rfl dX3_copyFrom_35 ?_
        refine lv_iload_n hx hb dX3_copyFrom_38 rfl (lv_at hl 2 rfl) ?_
        obtain ⟨h_5, hT⟩ := mx_chk hT
        refine mx_aald (C := "PeatRailway$Segment") X Z hy1.segs rfl h_5 dX3_copyFrom_39 ?_
        refine mx_tops (s2 := [.ref (mad E (y1 + 4 + w2.toNatClampNeg)), .ref (mad E (y0 + 4 + w2.toNatClampNeg))]) rfl ?_
        obtain ⟨q_6, h_q_6, hT⟩ := mx_bind hT
        refine mx_callV (As := [.ref (mad E (y1 + 4 + w2.toNatClampNeg))]) (rest := []) (st1 := []) (C := RX2) (T := TX2) (N := 6) (ci := 2) X Z hl.1 (c2_copyFrom l E hJ (hy0.seg h_4) (hy1.seg h_5) _ _ h_q_6) wd_8_16 wd_8_17 wd_8_18 wd_4_20 wd_8_19 hd2_copyFrom ⟨Nat.le_trans (by decide) hR.1, Nat.le_trans (by decide) hR.2⟩ ⟨Nat.zero_le _, Nat.zero_le _⟩ (hy0.seg h_4).i ((hy0.seg h_4).c _) rfl (Nat.le_of_ble_eq_true rfl) rfl rfl dX3_copyFrom_40 (fun H locs Z => ?_)
        obtain ⟨v_7, e_v_7, hT⟩ := mx_nm hT
        refine lv_iinc (v := v_7) (lv' := [(2, .int (v_7)), (0, .ref (mad E (y0))), (1, .ref (mad E (y1)))]) hx hb dX3_copyFrom_43 hl (k := 2) rfl (by rw [← e_v_7]; rfl) (by decide) rfl (fun ls hl => ?_)
        refine lv_goto (tgt := 10) hx hb dX3_copyFrom_46 (by decide) ?_
        exact ih _ _ _ _ _ _ hT Z (lv_sub hl [1, 2, 0] rfl) k0
set_option maxHeartbeats 4000000 in
set_option maxRecDepth 100000 in
theorem k3_copyFrom_59 {p : Program} {l : Launch} {e : Env} {R : Room} {s : State} {m : MethodId} {args : Array Value} {below : List Frame} {meth : Method} {cd : Code} {Q : State → Prop} {E : mE} (X : mX p s m args cd cX3_copyFrom 3 RX3 E) (hR : 1 ≤ R.frames ∧ 21 ≤ R.locals) (hJ : mJ E) {y0 : Nat} {y1 : Nat} (hy0 : mSt E y0) (hy1 : mSt E y1) : ∀ (n : Nat) (w2 : Int32) (G : mM) (H : Heap) (locs : List Loc) (ls : Array Slot) (r : mM), x3_copyFrom_L59 y0 y1 n w2 G = some r → mZ E s.heap H locs G → lv_has ls 3 [(0, .ref (mad E (y0))), (1, .ref (mad E (y1))), (2, .int (w2))] → (∀ (H : Heap) (locs : List Loc) (ls : Array Slot), mZ E s.heap H locs r → lv_has ls 3 [(0, .ref (mad E (y0))), (1, .ref (mad E (y1)))] → W p l e R s m args below meth cd H locs 0 0 Q (F0 m 98 ls [])) → W p l e R s m args below meth cd H locs 0 0 Q (F0 m 59 ls []) := by
  have hx := X.1
  have hb := X.2.1
  have hown := X.2.2.2.1
  have hts := X.2.2.2.2.1
  intro n
  induction n with
  | zero =>
    intro w2 G H locs ls r hT
    rw [x3_copyFrom_L59] at hT
    cases hT
  | succ n ih =>
    intro w2 G H locs ls r hT Z hl k0
    rw [x3_copyFrom_L59] at hT
    refine lv_iload_n hx hb dX3_copyFrom_59 rfl (lv_at hl 2 rfl) ?_
    refine lv_aload_n hx hb dX3_copyFrom_60 rfl (lv_at hl 0 rfl) ?_
    refine mx_get (v := .ref (mad E ((y0 + 2)))) (ci := 3) (C := RX3) (T := TX3) (N := 11) X Z hy0.i (hy0.c _) rfl inlX3 1 (by decide) wd_4_22 rfl dX3_copyFrom_61 ?_
    refine mx_alen (t := 4) (v := (4 : Int32)) X Z hy0.trs.1 (hy0.trs.2 _) rfl rfl dX3_copyFrom_64 ?_
    refine lv_icmp_ge (tgt := 98) hx hb dX3_copyFrom_65 (by decide) (fun h_10 => ?_) (fun h_10 => ?_)
    · replace hT := mx_t hT h_10
      cases hT
      exact k0 _ _ _ Z (lv_sub hl [0, 1] rfl)
    · replace hT := mx_f hT h_10
      refine lv_iload_n hx hb dX3_copyFrom_68 rfl (lv_at hl 2 rfl) ?_
      refine lv_aload_n hx hb dX3_copyFrom_69 rfl (lv_at hl 1 rfl) ?_
      refine mx_get (v := .ref (mad E ((y1 + 2)))) (ci := 3) (C := RX3) (T := TX3) (N := 11) X Z hy1.i (hy1.c _) rfl inlX3 1 (by decide) wd_4_22 rfl dX3_copyFrom_70 ?_
      refine mx_alen (t := 4) (v := (4 : Int32)) X Z hy1.trs.1 (hy1.trs.2 _) rfl rfl dX3_copyFrom_73 ?_
      refine lv_icmp_ge (tgt := 98) hx hb dX3_copyFrom_74 (by decide) (fun h_11 => ?_) (fun h_11 => ?_)
      · replace hT := mx_t hT h_11
        cases hT
        exact k0 _ _ _ Z (lv_sub hl [0, 1] rfl)
      · replace hT := mx_f hT h_11
        refine lv_aload_n hx hb dX3_copyFrom_77 rfl (lv_at hl 0 rfl) ?_
        refine mx_get (v := .ref (mad E ((y0 + 2)))) (ci := 3) (C := RX3) (T := TX3) (N := 11) X Z hy0.i (hy0.c _) rfl inlX3 1 (by decide) wd_4_22 rfl dX3_copyFrom_78 ?_
        refine lv_iload_n hx hb dX3_copyFrom_81 rfl (lv_at hl 2 rfl) ?_
        obtain ⟨h_12, hT⟩ := mx_chk hT
        refine mx_aald (C := "PeatRailway$Train") X Z hy0.trs rfl h_12 dX3_copyFrom_82 ?_
        refine mx_tops (s2 := [.ref (mad E (y0 + 16 + w2.toNatClampNeg))]) rfl ?_
        refine lv_aload_n hx hb dX3_copyFrom_83 rfl (lv_at hl 1 rfl) ?_
        refine mx_get (v := .ref (mad E ((y1 + 2)))) (ci := 3) (C := RX3) (T := TX3) (N := 11) X Z hy1.i (hy1.c _) rfl inlX3 1 (by decide) wd_4_22 rfl dX3_copyFrom_84 ?_
        refine lv_iload_n hx hb dX3_copyFrom_87 rfl (lv_at hl 2 rfl) ?_
        obtain ⟨h_13, hT⟩ := mx_chk hT
        refine mx_aald (C := "PeatRailway$Train") X Z hy1.trs rfl h_13 dX3_copyFrom_88 ?_
        refine mx_tops (s2 := [.ref (mad E (y1 + 16 + w2.toNatClampNeg)), .ref (mad E (y0 + 16 + w2.toNatClampNeg))]) rfl ?_
        obtain ⟨q_14, h_q_14, hT⟩ := mx_bind hT
        refine mx_callV (As := [.ref (mad E (y1 + 16 + w2.toNatClampNeg))]) (rest := []) (st1 := []) (C := RX4) (T := TX4) (N := 10) (ci := 4) X Z hl.1 (c4_copyFrom l E hJ (hy0.tr h_12) (hy1.tr h_13) _ _ h_q_14) wd_8_22 wd_8_23 wd_9_0 wd_5_0 wd_9_1 hd4_copyFrom ⟨Nat.le_trans (by decide) hR.1, Nat.le_trans (by decide) hR.2⟩ ⟨Nat.zero_le _, Nat.zero_le _⟩ (hy0.tr h_12).i ((hy0.tr h_12).c _) rfl (Nat.le_of_ble_eq_true rfl) rfl rfl dX3_copyFrom_89 (fun H locs Z => ?_)
        obtain ⟨v_15, e_v_15, hT⟩ := mx_nm hT
        refine lv_iinc (v := v_15) (lv' := [(2, .int (v_15)), (0, .ref (mad E (y0))), (1, .ref (mad E (y1)))]) hx hb dX3_copyFrom_92 hl (k := 2) rfl (by rw [← e_v_15]; rfl) (by decide) rfl (fun ls hl => ?_)
        refine lv_goto (tgt := 59) hx hb dX3_copyFrom_95 (by decide) ?_
        exact ih _ _ _ _ _ _ hT Z (lv_sub hl [1, 2, 0] rfl) k0
set_option maxHeartbeats 4000000 in
set_option maxRecDepth 100000 in
theorem k3_copyFrom_100 {p : Program} {l : Launch} {e : Env} {R : Room} {s : State} {m : MethodId} {args : Array Value} {below : List Frame} {meth : Method} {cd : Code} {Q : State → Prop} {E : mE} (X : mX p s m args cd cX3_copyFrom 3 RX3 E) (hR : 1 ≤ R.frames ∧ 21 ≤ R.locals) (hJ : mJ E) {y0 : Nat} {y1 : Nat} (hy0 : mSt E y0) (hy1 : mSt E y1) : ∀ (n : Nat) (w2 : Int32) (G : mM) (H : Heap) (locs : List Loc) (ls : Array Slot) (r : mM), x3_copyFrom_L100 y0 y1 n w2 G = some r → mZ E s.heap H locs G → lv_has ls 3 [(0, .ref (mad E (y0))), (1, .ref (mad E (y1))), (2, .int (w2))] → (∀ (H : Heap) (locs : List Loc) (ls : Array Slot), mZ E s.heap H locs r → lv_has ls 3 [(0, .ref (mad E (y0))), (1, .ref (mad E (y1)))] → W p l e R s m args below meth cd H locs 0 0 Q (F0 m 136 ls [])) → W p l e R s m args below meth cd H locs 0 0 Q (F0 m 100 ls []) := by
  have hx := X.1
  have hb := X.2.1
  have hown := X.2.2.2.1
  have hts := X.2.2.2.2.1
  intro n
  induction n with
  | zero =>
    intro w2 G H locs ls r hT
    rw [x3_copyFrom_L100] at hT
    cases hT
  | succ n ih =>
    intro w2 G H locs ls r hT Z hl k0
    rw [x3_copyFrom_L100] at hT
    refine lv_iload_n hx hb dX3_copyFrom_100 rfl (lv_at hl 2 rfl) ?_
    refine lv_aload_n hx hb dX3_copyFrom_101 rfl (lv_at hl 0 rfl) ?_
    refine mx_get (v := .ref (mad E ((y0 + 3)))) (ci := 3) (C := RX3) (T := TX3) (N := 11) X Z hy0.i (hy0.c _) rfl inlX3 2 (by decide) wd_5_1 rfl dX3_copyFrom_102 ?_
    refine mx_alen (t := 1) (v := (3 : Int32)) X Z hy0.sets.1 (hy0.sets.2 _) rfl rfl dX3_copyFrom_105 ?_
    refine lv_icmp_ge (tgt := 136) hx hb dX3_copyFrom_106 (by decide) (fun h_17 => ?_) (fun h_17 => ?_)
    · replace hT := mx_t hT h_17
      cases hT
      exact k0 _ _ _ Z (lv_sub hl [0, 1] rfl)
    · replace hT := mx_f hT h_17
      refine lv_iload_n hx hb dX3_copyFrom_109 rfl (lv_at hl 2 rfl) ?_
      refine lv_aload_n hx hb dX3_copyFrom_110 rfl (lv_at hl 1 rfl) ?_
      refine mx_get (v := .ref (mad E ((y1 + 3)))) (ci := 3) (C := RX3) (T := TX3) (N := 11) X Z hy1.i (hy1.c _) rfl inlX3 2 (by decide) wd_5_1 rfl dX3_copyFrom_111 ?_
      refine mx_alen (t := 1) (v := (3 : Int32)) X Z hy1.sets.1 (hy1.sets.2 _) rfl rfl dX3_copyFrom_114 ?_
      refine lv_icmp_ge (tgt := 136) hx hb dX3_copyFrom_115 (by decide) (fun h_18 => ?_) (fun h_18 => ?_)
      · replace hT := mx_t hT h_18
        cases hT
        exact k0 _ _ _ Z (lv_sub hl [0, 1] rfl)
      · replace hT := mx_f hT h_18
        refine lv_aload_n hx hb dX3_copyFrom_118 rfl (lv_at hl 0 rfl) ?_
        refine mx_get (v := .ref (mad E ((y0 + 3)))) (ci := 3) (C := RX3) (T := TX3) (N := 11) X Z hy0.i (hy0.c _) rfl inlX3 2 (by decide) wd_5_1 rfl dX3_copyFrom_119 ?_
        refine lv_iload_n hx hb dX3_copyFrom_122 rfl (lv_at hl 2 rfl) ?_
        refine lv_aload_n hx hb dX3_copyFrom_123 rfl (lv_at hl 1 rfl) ?_
        refine mx_get (v := .ref (mad E ((y1 + 3)))) (ci := 3) (C := RX3) (T := TX3) (N := 11) X Z hy1.i (hy1.c _) rfl inlX3 2 (by decide) wd_5_1 rfl dX3_copyFrom_124 ?_
        refine lv_iload_n hx hb dX3_copyFrom_127 rfl (lv_at hl 2 rfl) ?_
        obtain ⟨h_19, hT⟩ := mx_chk hT
        refine mx_iald X Z hy1.sets h_19 dX3_copyFrom_128 ?_
        obtain ⟨h_20, hT⟩ := mx_chk hT
        obtain ⟨G_21, e_G_21, hT⟩ := mx_nm hT
        refine mx_iast X Z hy0.sets h_20 dX3_copyFrom_129 (fun H locs Z => ?_)
        rw [e_G_21] at Z
        obtain ⟨v_22, e_v_22, hT⟩ := mx_nm hT
        refine lv_iinc (v := v_22) (lv' := [(2, .int (v_22)), (0, .ref (mad E (y0))), (1, .ref (mad E (y1)))]) hx hb dX3_copyFrom_130 hl (k := 2) rfl (by rw [← e_v_22]; rfl) (by decide) rfl (fun ls hl => ?_)
        refine lv_goto (tgt := 100) hx hb dX3_copyFrom_133 (by decide) ?_
        exact ih _ _ _ _ _ _ hT Z (lv_sub hl [1, 2, 0] rfl) k0
set_option maxHeartbeats 4000000 in
set_option maxRecDepth 100000 in
theorem c3_copyFrom (l : Launch) (E : mE) (hJ : mJ E) {c : Nat} {d1 : Nat} (hc : mSt E c) (hd1 : mSt E d1) (G : mM) (q : mM) (hT : x3_copyFrom c d1 G = some q) : mMet l E yX3_copyFrom cX3_copyFrom 3 none 1 21 [.ref (mad E (c)), .ref (mad E (d1))] G (none) q := by
  refine Met.ofW (cc := cX3_copyFrom) (maxL := 3) (ret := none) (by decide) rfl ?_
  intro p e s m args below meth cd s₁ B hml hv
  obtain ⟨rfl, hP, hK, hS⟩ := hv
  have X := mx_entry (own := RX3) B hml hK hJ hS rfl
  have hx := X.1
  have hb := X.2.1
  have hown := X.2.2.2.1
  have hts := X.2.2.2.2.1
  have hr := B.returns
  have hlocks := B.notSynchronized
  have hR : 1 ≤ (headSpec (mWs yX3_copyFrom cX3_copyFrom 3 none) ({ frames := 1, cells := 0, slots := 0, locals := 21 })).room.frames ∧ 21 ≤ (headSpec (mWs yX3_copyFrom cX3_copyFrom 3 none) ({ frames := 1, cells := 0, slots := 0, locals := 21 })).room.locals := ⟨Nat.le_refl _, Nat.le_refl _⟩
  have Z : mZ E s.heap s.heap [] G := ⟨hP, va_S.rf⟩
  have hl := lv_entry ([.ref (mad E (c)), .ref (mad E (d1))]) (n := 3) (Nat.le_of_ble_eq_true rfl)
  rw [lg_entry_eq]
  generalize (lg_sl ([.ref (mad E (c)), .ref (mad E (d1))]) ++ List.replicate (3 - (lg_sl ([.ref (mad E (c)), .ref (mad E (d1))])).length) Slot.unset).toArray = ls at hl ⊢
  have hl : lv_has ls 3 [(0, .ref (mad E (c))), (1, .ref (mad E (d1)))] := hl
  unfold x3_copyFrom at hT
  refine lv_aload_n hx hb dX3_copyFrom_0 rfl (lv_at hl 0 rfl) ?_
  refine lv_aload_n hx hb dX3_copyFrom_1 rfl (lv_at hl 1 rfl) ?_
  refine mx_get (v := .int (G d1 3)) (ci := 3) (C := RX3) (T := TX3) (N := 11) X Z hd1.i (hd1.c _) rfl inlX3 3 (by decide) wd_5_16 rfl dX3_copyFrom_2 ?_
  obtain ⟨G_1, e_G_1, hT⟩ := mx_nm hT
  refine mx_put (ci := 3) (C := RX3) (T := TX3) (N := 11) X Z hc.i (hc.c _) rfl inlX3 tyX3 tyX3_ok nmX3 3 (by decide) wd_5_16 rfl rfl rfl (by show 3 < 11; decide) ((hc.c _).trans (congrArg (fun z => Sum.inr (3, z)) (sp_St_3 (mad E) _ _ _))) dX3_copyFrom_5 (fun H locs Z => ?_)
  rw [e_G_1] at Z
  refine lv_iconst (v := (0 : Int32)) hx hb dX3_copyFrom_8 (by decide) ?_
  refine lv_istore_n (lv' := [(2, .int ((0 : Int32))), (0, .ref (mad E (c))), (1, .ref (mad E (d1)))]) hx hb dX3_copyFrom_9 rfl hl (by decide) rfl (fun ls hl => ?_)
  obtain ⟨q_8, h_q_8, hT⟩ := mx_bind hT
  refine k3_copyFrom_10 X hR hJ hc hd1  _ _ _ _ _ _ _ h_q_8 Z (lv_sub (l' := [(0, .ref (mad E (c))), (1, .ref (mad E (d1))), (2, .int ((0 : Int32)))]) hl [1, 2, 0] rfl) (fun H locs ls Z hl => ?_)
  · refine lv_aload_n hx hb dX3_copyFrom_49 rfl (lv_at hl 0 rfl) ?_
    refine lv_aload_n hx hb dX3_copyFrom_50 rfl (lv_at hl 1 rfl) ?_
    refine mx_get (v := .int (q_8 d1 4)) (ci := 3) (C := RX3) (T := TX3) (N := 11) X Z hd1.i (hd1.c _) rfl inlX3 4 (by decide) wd_8_10 rfl dX3_copyFrom_51 ?_
    obtain ⟨G_9, e_G_9, hT⟩ := mx_nm hT
    refine mx_put (ci := 3) (C := RX3) (T := TX3) (N := 11) X Z hc.i (hc.c _) rfl inlX3 tyX3 tyX3_ok nmX3 4 (by decide) wd_8_10 rfl rfl rfl (by show 4 < 11; decide) ((hc.c _).trans (congrArg (fun z => Sum.inr (3, z)) (sp_St_4 (mad E) _ _ _))) dX3_copyFrom_54 (fun H locs Z => ?_)
    rw [e_G_9] at Z
    refine lv_iconst (v := (0 : Int32)) hx hb dX3_copyFrom_57 (by decide) ?_
    refine lv_istore_n (lv' := [(2, .int ((0 : Int32))), (0, .ref (mad E (c))), (1, .ref (mad E (d1)))]) hx hb dX3_copyFrom_58 rfl hl (by decide) rfl (fun ls hl => ?_)
    obtain ⟨q_16, h_q_16, hT⟩ := mx_bind hT
    refine k3_copyFrom_59 X hR hJ hc hd1  _ _ _ _ _ _ _ h_q_16 Z (lv_sub (l' := [(0, .ref (mad E (c))), (1, .ref (mad E (d1))), (2, .int ((0 : Int32)))]) hl [1, 2, 0] rfl) (fun H locs ls Z hl => ?_)
    · refine lv_iconst (v := (0 : Int32)) hx hb dX3_copyFrom_98 (by decide) ?_
      refine lv_istore_n (lv' := [(2, .int ((0 : Int32))), (0, .ref (mad E (c))), (1, .ref (mad E (d1)))]) hx hb dX3_copyFrom_99 rfl hl (by decide) rfl (fun ls hl => ?_)
      obtain ⟨q_23, h_q_23, hT⟩ := mx_bind hT
      refine k3_copyFrom_100 X hR hJ hc hd1  _ _ _ _ _ _ _ h_q_23 Z (lv_sub (l' := [(0, .ref (mad E (c))), (1, .ref (mad E (d1))), (2, .int ((0 : Int32)))]) hl [1, 2, 0] rfl) (fun H locs ls Z hl => ?_)
      · refine lv_aload_n hx hb dX3_copyFrom_136 rfl (lv_at hl 0 rfl) ?_
        refine lv_aload_n hx hb dX3_copyFrom_137 rfl (lv_at hl 1 rfl) ?_
        refine mx_get (v := .int (q_23 d1 5)) (ci := 3) (C := RX3) (T := TX3) (N := 11) X Z hd1.i (hd1.c _) rfl inlX3 5 (by decide) wd_8_11 rfl dX3_copyFrom_138 ?_
        obtain ⟨G_24, e_G_24, hT⟩ := mx_nm hT
        refine mx_put (ci := 3) (C := RX3) (T := TX3) (N := 11) X Z hc.i (hc.c _) rfl inlX3 tyX3 tyX3_ok nmX3 5 (by decide) wd_8_11 rfl rfl rfl (by show 5 < 11; decide) ((hc.c _).trans (congrArg (fun z => Sum.inr (3, z)) (sp_St_5 (mad E) _ _ _))) dX3_copyFrom_141 (fun H locs Z => ?_)
        rw [e_G_24] at Z
        refine lv_aload_n hx hb dX3_copyFrom_144 rfl (lv_at hl 0 rfl) ?_
        refine lv_aload_n hx hb dX3_copyFrom_145 rfl (lv_at hl 1 rfl) ?_
        refine mx_get (v := .int (G_24 d1 6)) (ci := 3) (C := RX3) (T := TX3) (N := 11) X Z hd1.i (hd1.c _) rfl inlX3 6 (by decide) wd_8_12 rfl dX3_copyFrom_146 ?_
        obtain ⟨G_25, e_G_25, hT⟩ := mx_nm hT
        refine mx_put (ci := 3) (C := RX3) (T := TX3) (N := 11) X Z hc.i (hc.c _) rfl inlX3 tyX3 tyX3_ok nmX3 6 (by decide) wd_8_12 rfl rfl rfl (by show 6 < 11; decide) ((hc.c _).trans (congrArg (fun z => Sum.inr (3, z)) (sp_St_6 (mad E) _ _ _))) dX3_copyFrom_149 (fun H locs Z => ?_)
        rw [e_G_25] at Z
        refine lv_aload_n hx hb dX3_copyFrom_152 rfl (lv_at hl 0 rfl) ?_
        refine lv_aload_n hx hb dX3_copyFrom_153 rfl (lv_at hl 1 rfl) ?_
        refine mx_get (v := .int (G_25 d1 7)) (ci := 3) (C := RX3) (T := TX3) (N := 11) X Z hd1.i (hd1.c _) rfl inlX3 7 (by decide) wd_8_13 rfl dX3_copyFrom_154 ?_
        obtain ⟨G_26, e_G_26, hT⟩ := mx_nm hT
        refine mx_put (ci := 3) (C := RX3) (T := TX3) (N := 11) X Z hc.i (hc.c _) rfl inlX3 tyX3 tyX3_ok nmX3 7 (by decide) wd_8_13 rfl rfl rfl (by show 7 < 11; decide) ((hc.c _).trans (congrArg (fun z => Sum.inr (3, z)) (sp_St_7 (mad E) _ _ _))) dX3_copyFrom_157 (fun H locs Z => ?_)
        rw [e_G_26] at Z
        refine lv_aload_n hx hb dX3_copyFrom_160 rfl (lv_at hl 0 rfl) ?_
        refine lv_aload_n hx hb dX3_copyFrom_161 rfl (lv_at hl 1 rfl) ?_
        refine mx_get (v := .int (G_26 d1 8)) (ci := 3) (C := RX3) (T := TX3) (N := 11) X Z hd1.i (hd1.c _) rfl inlX3 8 (by decide) wd_8_14 rfl dX3_copyFrom_162 ?_
        obtain ⟨G_27, e_G_27, hT⟩ := mx_nm hT
        refine mx_put (ci := 3) (C := RX3) (T := TX3) (N := 11) X Z hc.i (hc.c _) rfl inlX3 tyX3 tyX3_ok nmX3 8 (by decide) wd_8_14 rfl rfl rfl (by show 8 < 11; decide) ((hc.c _).trans (congrArg (fun z => Sum.inr (3, z)) (sp_St_8 (mad E) _ _ _))) dX3_copyFrom_165 (fun H locs Z => ?_)
        rw [e_G_27] at Z
        refine lv_aload_n hx hb dX3_copyFrom_168 rfl (lv_at hl 0 rfl) ?_
        refine lv_aload_n hx hb dX3_copyFrom_169 rfl (lv_at hl 1 rfl) ?_
        refine mx_get (v := .int (G_27 d1 9)) (ci := 3) (C := RX3) (T := TX3) (N := 11) X Z hd1.i (hd1.c _) rfl inlX3 9 (by decide) wd_8_15 rfl dX3_copyFrom_170 ?_
        obtain ⟨G_28, e_G_28, hT⟩ := mx_nm hT
        refine mx_put (ci := 3) (C := RX3) (T := TX3) (N := 11) X Z hc.i (hc.c _) rfl inlX3 tyX3 tyX3_ok nmX3 9 (by decide) wd_8_15 rfl rfl rfl (by show 9 < 11; decide) ((hc.c _).trans (congrArg (fun z => Sum.inr (3, z)) (sp_St_9 (mad E) _ _ _))) dX3_copyFrom_173 (fun H locs Z => ?_)
        rw [e_G_28] at Z
        cases hT
        exact W.vret hx hb hr (fun t ht hW => mx_end Z t ht _) Z.2.2.2 dX3_copyFrom_176
/-! PeatRailway$History.remember -/
def x0_remember (d1 : Nat) (G : mM) : Option mM :=
  if (G 243 1) < ((8 : Int32)) then
    if (G 243 1) < 0 then
      some (G)
    else
      if ((8 : Int32)) ≤ (G 243 1) then
        some (G)
      else
        mCk (mIn (G 243 1) 8) <|
        mCk (mStP (G 244 ((G 243 1).toNatClampNeg)).toNatClampNeg) <|
        (x3_copyFrom ((G 244 ((G 243 1).toNatClampNeg)).toNatClampNeg) d1 G).bind fun q_6 =>
        mNm (up2 q_6 243 1 ((q_6 243 1) + ((1 : Int32)))) fun G_7 =>
        some (G_7)
  else
    (x0_dropOldest G).bind fun q_8 =>
    if (q_8 243 1) < 0 then
      some (q_8)
    else
      if ((8 : Int32)) ≤ (q_8 243 1) then
        some (q_8)
      else
        mCk (mIn (q_8 243 1) 8) <|
        mCk (mStP (q_8 244 ((q_8 243 1).toNatClampNeg)).toNatClampNeg) <|
        (x3_copyFrom ((q_8 244 ((q_8 243 1).toNatClampNeg)).toNatClampNeg) d1 q_8).bind fun q_13 =>
        mNm (up2 q_13 243 1 ((q_13 243 1) + ((1 : Int32)))) fun G_14 =>
        some (G_14)
theorem hd0_remember : yX0_remember.cls = RX0 ∧ yX0_remember.cls ≠ "java/lang/invoke/MethodHandle" ∧ yX0_remember.cls ≠ "java/lang/invoke/VarHandle" ∧ (parseMethodDescriptor yX0_remember.desc).map (fun d => d.parameters.length) = some 1 := by decide +kernel
set_option maxHeartbeats 4000000 in
set_option maxRecDepth 100000 in
theorem c0_remember (l : Launch) (E : mE) (hJ : mJ E) {d1 : Nat} (hc : mHi E 243) (hd1 : mSt E d1) (G : mM) (q : mM) (hT : x0_remember d1 G = some q) : mMet l E yX0_remember cX0_remember 2 none 2 43 [.ref (mad E (243)), .ref (mad E (d1))] G (none) q := by
  refine Met.ofW (cc := cX0_remember) (maxL := 2) (ret := none) (by decide) rfl ?_
  intro p e s m args below meth cd s₁ B hml hv
  obtain ⟨rfl, hP, hK, hS⟩ := hv
  have X := mx_entry (own := RX0) B hml hK hJ hS rfl
  have hx := X.1
  have hb := X.2.1
  have hown := X.2.2.2.1
  have hts := X.2.2.2.2.1
  have hr := B.returns
  have hlocks := B.notSynchronized
  have hR : 2 ≤ (headSpec (mWs yX0_remember cX0_remember 2 none) ({ frames := 2, cells := 0, slots := 0, locals := 43 })).room.frames ∧ 43 ≤ (headSpec (mWs yX0_remember cX0_remember 2 none) ({ frames := 2, cells := 0, slots := 0, locals := 43 })).room.locals := ⟨Nat.le_refl _, Nat.le_refl _⟩
  have Z : mZ E s.heap s.heap [] G := ⟨hP, va_S.rf⟩
  have hl := lv_entry ([.ref (mad E (243)), .ref (mad E (d1))]) (n := 2) (Nat.le_of_ble_eq_true rfl)
  rw [lg_entry_eq]
  generalize (lg_sl ([.ref (mad E (243)), .ref (mad E (d1))]) ++ List.replicate (2 - (lg_sl ([.ref (mad E (243)), .ref (mad E (d1))])).length) Slot.unset).toArray = ls at hl ⊢
  have hl : lv_has ls 2 [(0, .ref (mad E (243))), (1, .ref (mad E (d1)))] := hl
  unfold x0_remember at hT
  refine lv_aload_n hx hb dX0_remember_0 rfl (lv_at hl 0 rfl) ?_
  refine mx_get (v := .int (G 243 1)) (ci := 0) (C := RX0) (T := TX0) (N := 2) X Z hc.i (hc.c _) rfl inlX0 1 (by decide) wd_8_1 rfl dX0_remember_1 ?_
  refine lv_aload_n hx hb dX0_remember_4 rfl (lv_at hl 0 rfl) ?_
  refine mx_get (v := .ref (mad E (244))) (ci := 0) (C := RX0) (T := TX0) (N := 2) X Z hc.i (hc.c _) rfl inlX0 0 (by decide) wd_7_15 rfl dX0_remember_5 ?_
  refine mx_alen (t := 3) (v := (8 : Int32)) X Z hc.states.1 (hc.states.2 _) rfl rfl dX0_remember_8 ?_
  refine lv_icmp_lt (tgt := 16) hx hb dX0_remember_9 (by decide) (fun h_1 => ?_) (fun h_1 => ?_)
  · replace hT := mx_t hT h_1
    refine lv_aload_n hx hb dX0_remember_16 rfl (lv_at hl 0 rfl) ?_
    refine mx_get (v := .int (G 243 1)) (ci := 0) (C := RX0) (T := TX0) (N := 2) X Z hc.i (hc.c _) rfl inlX0 1 (by decide) wd_8_1 rfl dX0_remember_17 ?_
    refine lv_if_lt (tgt := 58) hx hb dX0_remember_20 (by decide) (fun h_2 => ?_) (fun h_2 => ?_)
    · replace hT := mx_t hT h_2
      cases hT
      exact W.vret hx hb hr (fun t ht hW => mx_end Z t ht _) Z.2.2.2 dX0_remember_58
    · replace hT := mx_f hT h_2
      refine lv_aload_n hx hb dX0_remember_23 rfl (lv_at hl 0 rfl) ?_
      refine mx_get (v := .int (G 243 1)) (ci := 0) (C := RX0) (T := TX0) (N := 2) X Z hc.i (hc.c _) rfl inlX0 1 (by decide) wd_8_1 rfl dX0_remember_24 ?_
      refine lv_aload_n hx hb dX0_remember_27 rfl (lv_at hl 0 rfl) ?_
      refine mx_get (v := .ref (mad E (244))) (ci := 0) (C := RX0) (T := TX0) (N := 2) X Z hc.i (hc.c _) rfl inlX0 0 (by decide) wd_7_15 rfl dX0_remember_28 ?_
      refine mx_alen (t := 3) (v := (8 : Int32)) X Z hc.states.1 (hc.states.2 _) rfl rfl dX0_remember_31 ?_
      refine lv_icmp_ge (tgt := 58) hx hb dX0_remember_32 (by decide) (fun h_3 => ?_) (fun h_3 => ?_)
      · replace hT := mx_t hT h_3
        cases hT
        exact W.vret hx hb hr (fun t ht hW => mx_end Z t ht _) Z.2.2.2 dX0_remember_58
      · replace hT := mx_f hT h_3
        refine lv_aload_n hx hb dX0_remember_35 rfl (lv_at hl 0 rfl) ?_
        refine mx_get (v := .ref (mad E (244))) (ci := 0) (C := RX0) (T := TX0) (N := 2) X Z hc.i (hc.c _) rfl inlX0 0 (by decide) wd_7_15 rfl dX0_remember_36 ?_
        refine lv_aload_n hx hb dX0_remember_39 rfl (lv_at hl 0 rfl) ?_
        refine mx_get (v := .int (G 243 1)) (ci := 0) (C := RX0) (T := TX0) (N := 2) X Z hc.i (hc.c _) rfl inlX0 1 (by decide) wd_8_1 rfl dX0_remember_40 ?_
        obtain ⟨h_4, hT⟩ := mx_chk hT
        refine mx_aald (C := "PeatRailway$State") X Z hc.states rfl h_4 dX0_remember_43 ?_
        obtain ⟨h_5, hT⟩ := mx_chk hT
        refine mx_tops (s2 := [.ref (mad E ((G 244 ((G 243 1).toNatClampNeg)).toNatClampNeg))]) rfl ?_
        refine lv_aload_n hx hb dX0_remember_44 rfl (lv_at hl 1 rfl) ?_
        obtain ⟨q_6, h_q_6, hT⟩ := mx_bind hT
        refine mx_callV (As := [.ref (mad E (d1))]) (rest := []) (st1 := []) (C := RX3) (T := TX3) (N := 11) (ci := 3) X Z hl.1 (c3_copyFrom l E hJ (mStP.k h_5 hc.2) hd1 _ _ h_q_6) wd_8_6 wd_8_7 wd_8_8 wd_1_16 wd_8_9 hd3_copyFrom ⟨Nat.le_trans (by decide) hR.1, Nat.le_trans (by decide) hR.2⟩ ⟨Nat.zero_le _, Nat.zero_le _⟩ (mStP.k h_5 hc.2).i ((mStP.k h_5 hc.2).c _) rfl (Nat.le_of_ble_eq_true rfl) rfl rfl dX0_remember_45 (fun H locs Z => ?_)
        refine lv_aload_n hx hb dX0_remember_48 rfl (lv_at hl 0 rfl) ?_
        refine lv_dup hx hb dX0_remember_49 rfl ?_
        refine mx_get (v := .int (q_6 243 1)) (ci := 0) (C := RX0) (T := TX0) (N := 2) X Z hc.i (hc.c _) rfl inlX0 1 (by decide) wd_8_1 rfl dX0_remember_50 ?_
        refine lv_iconst (v := (1 : Int32)) hx hb dX0_remember_53 (by decide) ?_
        refine lv_iadd hx hb dX0_remember_54 ?_
        obtain ⟨G_7, e_G_7, hT⟩ := mx_nm hT
        refine mx_put (ci := 0) (C := RX0) (T := TX0) (N := 2) X Z hc.i (hc.c _) rfl inlX0 tyX0 tyX0_ok nmX0 1 (by decide) wd_8_1 rfl rfl rfl (by show 1 < 2; decide) ((hc.c _).trans (congrArg (fun z => Sum.inr (0, z)) (sp_Hi_1 (mad E) _ _ _))) dX0_remember_55 (fun H locs Z => ?_)
        rw [e_G_7] at Z
        cases hT
        exact W.vret hx hb hr (fun t ht hW => mx_end Z t ht _) Z.2.2.2 dX0_remember_58
  · replace hT := mx_f hT h_1
    refine lv_aload_n hx hb dX0_remember_12 rfl (lv_at hl 0 rfl) ?_
    obtain ⟨q_8, h_q_8, hT⟩ := mx_bind hT
    refine mx_callV (As := []) (rest := []) (st1 := []) (C := RX0) (T := TX0) (N := 2) (ci := 0) X Z hl.1 (c0_dropOldest l E hJ hc _ _ h_q_8) wd_10_0 wd_10_1 wd_10_2 wd_1_22 wd_10_3 hd0_dropOldest ⟨Nat.le_trans (by decide) hR.1, Nat.le_trans (by decide) hR.2⟩ ⟨Nat.zero_le _, Nat.zero_le _⟩ hc.i (hc.c _) rfl (Nat.le_of_ble_eq_true rfl) rfl rfl dX0_remember_13 (fun H locs Z => ?_)
    refine lv_aload_n hx hb dX0_remember_16 rfl (lv_at hl 0 rfl) ?_
    refine mx_get (v := .int (q_8 243 1)) (ci := 0) (C := RX0) (T := TX0) (N := 2) X Z hc.i (hc.c _) rfl inlX0 1 (by decide) wd_8_1 rfl dX0_remember_17 ?_
    refine lv_if_lt (tgt := 58) hx hb dX0_remember_20 (by decide) (fun h_9 => ?_) (fun h_9 => ?_)
    · replace hT := mx_t hT h_9
      cases hT
      exact W.vret hx hb hr (fun t ht hW => mx_end Z t ht _) Z.2.2.2 dX0_remember_58
    · replace hT := mx_f hT h_9
      refine lv_aload_n hx hb dX0_remember_23 rfl (lv_at hl 0 rfl) ?_
      refine mx_get (v := .int (q_8 243 1)) (ci := 0) (C := RX0) (T := TX0) (N := 2) X Z hc.i (hc.c _) rfl inlX0 1 (by decide) wd_8_1 rfl dX0_remember_24 ?_
      refine lv_aload_n hx hb dX0_remember_27 rfl (lv_at hl 0 rfl) ?_
      refine mx_get (v := .ref (mad E (244))) (ci := 0) (C := RX0) (T := TX0) (N := 2) X Z hc.i (hc.c _) rfl inlX0 0 (by decide) wd_7_15 rfl dX0_remember_28 ?_
      refine mx_alen (t := 3) (v := (8 : Int32)) X Z hc.states.1 (hc.states.2 _) rfl rfl dX0_remember_31 ?_
      refine lv_icmp_ge (tgt := 58) hx hb dX0_remember_32 (by decide) (fun h_10 => ?_) (fun h_10 => ?_)
      · replace hT := mx_t hT h_10
        cases hT
        exact W.vret hx hb hr (fun t ht hW => mx_end Z t ht _) Z.2.2.2 dX0_remember_58
      · replace hT := mx_f hT h_10
        refine lv_aload_n hx hb dX0_remember_35 rfl (lv_at hl 0 rfl) ?_
        refine mx_get (v := .ref (mad E (244))) (ci := 0) (C := RX0) (T := TX0) (N := 2) X Z hc.i (hc.c _) rfl inlX0 0 (by decide) wd_7_15 rfl dX0_remember_36 ?_
        refine lv_aload_n hx hb dX0_remember_39 rfl (lv_at hl 0 rfl) ?_
        refine mx_get (v := .int (q_8 243 1)) (ci := 0) (C := RX0) (T := TX0) (N := 2) X Z hc.i (hc.c _) rfl inlX0 1 (by decide) wd_8_1 rfl dX0_remember_40 ?_
        obtain ⟨h_11, hT⟩ := mx_chk hT
        refine mx_aald (C := "PeatRailway$State") X Z hc.states rfl h_11 dX0_remember_43 ?_
        obtain ⟨h_12, hT⟩ := mx_chk hT
        refine mx_tops (s2 := [.ref (mad E ((q_8 244 ((q_8 243 1).toNatClampNeg)).toNatClampNeg))]) rfl ?_
        refine lv_aload_n hx hb dX0_remember_44 rfl (lv_at hl 1 rfl) ?_
        obtain ⟨q_13, h_q_13, hT⟩ := mx_bind hT
        refine mx_callV (As := [.ref (mad E (d1))]) (rest := []) (st1 := []) (C := RX3) (T := TX3) (N := 11) (ci := 3) X Z hl.1 (c3_copyFrom l E hJ (mStP.k h_12 hc.2) hd1 _ _ h_q_13) wd_8_6 wd_8_7 wd_8_8 wd_1_16 wd_8_9 hd3_copyFrom ⟨Nat.le_trans (by decide) hR.1, Nat.le_trans (by decide) hR.2⟩ ⟨Nat.zero_le _, Nat.zero_le _⟩ (mStP.k h_12 hc.2).i ((mStP.k h_12 hc.2).c _) rfl (Nat.le_of_ble_eq_true rfl) rfl rfl dX0_remember_45 (fun H locs Z => ?_)
        refine lv_aload_n hx hb dX0_remember_48 rfl (lv_at hl 0 rfl) ?_
        refine lv_dup hx hb dX0_remember_49 rfl ?_
        refine mx_get (v := .int (q_13 243 1)) (ci := 0) (C := RX0) (T := TX0) (N := 2) X Z hc.i (hc.c _) rfl inlX0 1 (by decide) wd_8_1 rfl dX0_remember_50 ?_
        refine lv_iconst (v := (1 : Int32)) hx hb dX0_remember_53 (by decide) ?_
        refine lv_iadd hx hb dX0_remember_54 ?_
        obtain ⟨G_14, e_G_14, hT⟩ := mx_nm hT
        refine mx_put (ci := 0) (C := RX0) (T := TX0) (N := 2) X Z hc.i (hc.c _) rfl inlX0 tyX0 tyX0_ok nmX0 1 (by decide) wd_8_1 rfl rfl rfl (by show 1 < 2; decide) ((hc.c _).trans (congrArg (fun z => Sum.inr (0, z)) (sp_Hi_1 (mad E) _ _ _))) dX0_remember_55 (fun H locs Z => ?_)
        rw [e_G_14] at Z
        cases hT
        exact W.vret hx hb hr (fun t ht hW => mx_end Z t ht _) Z.2.2.2 dX0_remember_58
/-! PeatRailway$State.trainAt -/
def x3_trainAt (c : Nat) (x1 : Int32) (G : mM) : Option (Option Nat) :=
  if x1 < 0 then
    some (none)
  else
    if (G c 4) ≤ x1 then
      some (none)
    else
      if x1 < ((4 : Int32)) then
        mCk (mIn x1 4) <|
        some (some (c + 16 + x1.toNatClampNeg))
      else
        some (none)
theorem hd3_trainAt : yX3_trainAt.cls = RX3 ∧ yX3_trainAt.cls ≠ "java/lang/invoke/MethodHandle" ∧ yX3_trainAt.cls ≠ "java/lang/invoke/VarHandle" ∧ (parseMethodDescriptor yX3_trainAt.desc).map (fun d => d.parameters.length) = some 1 := by decide +kernel
set_option maxHeartbeats 4000000 in
set_option maxRecDepth 100000 in
theorem c3_trainAt (l : Launch) (E : mE) (hJ : mJ E) {c : Nat} (hc : mSt E c) (x1 : Int32) (G : mM) (q : (Option Nat)) (hT : x3_trainAt c x1 G = some q) : mMet l E yX3_trainAt cX3_trainAt 2 (some (.object "PeatRailway$Train")) 0 0 [.ref (mad E (c)), .int (x1)] G (some (va_re (mad E) q)) G := by
  refine Met.ofW (cc := cX3_trainAt) (maxL := 2) (ret := (some (.object "PeatRailway$Train"))) (by decide) rfl ?_
  intro p e s m args below meth cd s₁ B hml hv
  obtain ⟨rfl, hP, hK, hS⟩ := hv
  have X := mx_entry (own := RX3) B hml hK hJ hS rfl
  have hx := X.1
  have hb := X.2.1
  have hown := X.2.2.2.1
  have hts := X.2.2.2.2.1
  have hr := B.returns
  have hlocks := B.notSynchronized
  have hR : 0 ≤ (headSpec (mWs yX3_trainAt cX3_trainAt 2 (some (.object "PeatRailway$Train"))) ({ frames := 0, cells := 0, slots := 0, locals := 0 })).room.frames ∧ 0 ≤ (headSpec (mWs yX3_trainAt cX3_trainAt 2 (some (.object "PeatRailway$Train"))) ({ frames := 0, cells := 0, slots := 0, locals := 0 })).room.locals := ⟨Nat.le_refl _, Nat.le_refl _⟩
  have Z : mZ E s.heap s.heap [] G := ⟨hP, va_S.rf⟩
  have hl := lv_entry ([.ref (mad E (c)), .int (x1)]) (n := 2) (Nat.le_of_ble_eq_true rfl)
  rw [lg_entry_eq]
  generalize (lg_sl ([.ref (mad E (c)), .int (x1)]) ++ List.replicate (2 - (lg_sl ([.ref (mad E (c)), .int (x1)])).length) Slot.unset).toArray = ls at hl ⊢
  have hl : lv_has ls 2 [(0, .ref (mad E (c))), (1, .int (x1))] := hl
  unfold x3_trainAt at hT
  refine lv_iload_n hx hb dX3_trainAt_0 rfl (lv_at hl 1 rfl) ?_
  refine lv_if_lt (tgt := 21) hx hb dX3_trainAt_1 (by decide) (fun h_1 => ?_) (fun h_1 => ?_)
  · replace hT := mx_t hT h_1
    refine lv_null hx hb dX3_trainAt_21 ?_
    cases hT
    exact W.aret hx hb hr (Or.inl ⟨_, rfl⟩) (Or.inl rfl) (fun t ht hW => mx_end Z t ht _) Z.2.2.2 dX3_trainAt_22
  · replace hT := mx_f hT h_1
    refine lv_iload_n hx hb dX3_trainAt_4 rfl (lv_at hl 1 rfl) ?_
    refine lv_aload_n hx hb dX3_trainAt_5 rfl (lv_at hl 0 rfl) ?_
    refine mx_get (v := .int (G c 4)) (ci := 3) (C := RX3) (T := TX3) (N := 11) X Z hc.i (hc.c _) rfl inlX3 4 (by decide) wd_8_10 rfl dX3_trainAt_6 ?_
    refine lv_icmp_ge (tgt := 21) hx hb dX3_trainAt_9 (by decide) (fun h_2 => ?_) (fun h_2 => ?_)
    · replace hT := mx_t hT h_2
      refine lv_null hx hb dX3_trainAt_21 ?_
      cases hT
      exact W.aret hx hb hr (Or.inl ⟨_, rfl⟩) (Or.inl rfl) (fun t ht hW => mx_end Z t ht _) Z.2.2.2 dX3_trainAt_22
    · replace hT := mx_f hT h_2
      refine lv_iload_n hx hb dX3_trainAt_12 rfl (lv_at hl 1 rfl) ?_
      refine lv_aload_n hx hb dX3_trainAt_13 rfl (lv_at hl 0 rfl) ?_
      refine mx_get (v := .ref (mad E ((c + 2)))) (ci := 3) (C := RX3) (T := TX3) (N := 11) X Z hc.i (hc.c _) rfl inlX3 1 (by decide) wd_4_22 rfl dX3_trainAt_14 ?_
      refine mx_alen (t := 4) (v := (4 : Int32)) X Z hc.trs.1 (hc.trs.2 _) rfl rfl dX3_trainAt_17 ?_
      refine lv_icmp_lt (tgt := 23) hx hb dX3_trainAt_18 (by decide) (fun h_3 => ?_) (fun h_3 => ?_)
      · replace hT := mx_t hT h_3
        refine lv_aload_n hx hb dX3_trainAt_23 rfl (lv_at hl 0 rfl) ?_
        refine mx_get (v := .ref (mad E ((c + 2)))) (ci := 3) (C := RX3) (T := TX3) (N := 11) X Z hc.i (hc.c _) rfl inlX3 1 (by decide) wd_4_22 rfl dX3_trainAt_24 ?_
        refine lv_iload_n hx hb dX3_trainAt_27 rfl (lv_at hl 1 rfl) ?_
        obtain ⟨h_4, hT⟩ := mx_chk hT
        refine mx_aald (C := "PeatRailway$Train") X Z hc.trs rfl h_4 dX3_trainAt_28 ?_
        refine mx_tops (s2 := [.ref (mad E (c + 16 + x1.toNatClampNeg))]) rfl ?_
        cases hT
        exact W.aret hx hb hr (Or.inl ⟨_, rfl⟩) (Or.inr ⟨_, rfl⟩) (fun t ht hW => mx_end Z t ht _) Z.2.2.2 dX3_trainAt_29
      · replace hT := mx_f hT h_3
        refine lv_null hx hb dX3_trainAt_21 ?_
        cases hT
        exact W.aret hx hb hr (Or.inl ⟨_, rfl⟩) (Or.inl rfl) (fun t ht hW => mx_end Z t ht _) Z.2.2.2 dX3_trainAt_22
theorem c3_trainAt_k (E : mE) {c : Nat} (hc : mSt E c) (x1 : Int32) (G : mM) (q : Option Nat) (hT : x3_trainAt c x1 G = some q) : ∀ o, q = some o → mTr E o := by
  unfold x3_trainAt at hT
  intro o ho
  subst ho
  simp only [mCk] at hT
  repeat' (split at hT)
  all_goals first
    | (cases hT; done)
    | (cases hT; exact hc.tr (mx_lit (by assumption)))
/-! PeatRailway$State.peatInTrains -/
def x3_peatInTrains_L4 (y0 : Nat) : Nat → Int32 → Int32 → mM → Option (Int32)
  | 0, _, _, _ => none
  | n + 1, w1, w2, G =>
    if ((4 : Int32)) ≤ w2 then
      some (w1)
    else
      (x3_trainAt y0 w2 G).bind fun q_2 =>
      mOpt q_2 (
        mNm (w2 + (1 : Int32)) fun v_5 =>
        x3_peatInTrains_L4 y0 n w1 v_5 G) fun o_3 =>
        mNm (w1 + (G o_3 2)) fun v_6 =>
        mNm (w2 + (1 : Int32)) fun v_7 =>
        x3_peatInTrains_L4 y0 n v_6 v_7 G
def x3_peatInTrains (c : Nat) (G : mM) : Option Int32 :=
  (x3_peatInTrains_L4 c mFu ((0 : Int32)) ((0 : Int32)) G).bind fun q_8 =>
  some (q_8)
theorem hd3_peatInTrains : yX3_peatInTrains.cls = RX3 ∧ yX3_peatInTrains.cls ≠ "java/lang/invoke/MethodHandle" ∧ yX3_peatInTrains.cls ≠ "java/lang/invoke/VarHandle" ∧ (parseMethodDescriptor yX3_peatInTrains.desc).map (fun d => d.parameters.length) = some 0 := by decide +kernel
set_option maxHeartbeats 4000000 in
set_option maxRecDepth 100000 in
theorem k3_peatInTrains_4 {p : Program} {l : Launch} {e : Env} {R : Room} {s : State} {m : MethodId} {args : Array Value} {below : List Frame} {meth : Method} {cd : Code} {Q : State → Prop} {E : mE} (X : mX p s m args cd cX3_peatInTrains 4 RX3 E) (hR : 1 ≤ R.frames ∧ 21 ≤ R.locals) (hJ : mJ E) {y0 : Nat} (hy0 : mSt E y0) : ∀ (n : Nat) (w1 : Int32) (w2 : Int32) (G : mM) (H : Heap) (locs : List Loc) (ls : Array Slot) (r : Int32), x3_peatInTrains_L4 y0 n w1 w2 G = some r → mZ E s.heap H locs G → lv_has ls 4 [(0, .ref (mad E (y0))), (1, .int (w1)), (2, .int (w2))] → (∀ (H : Heap) (locs : List Loc) (ls : Array Slot), mZ E s.heap H locs G → lv_has ls 4 [(0, .ref (mad E (y0))), (1, .int (r))] → W p l e R s m args below meth cd H locs 0 0 Q (F0 m 32 ls [])) → W p l e R s m args below meth cd H locs 0 0 Q (F0 m 4 ls []) := by
  have hx := X.1
  have hb := X.2.1
  have hown := X.2.2.2.1
  have hts := X.2.2.2.2.1
  intro n
  induction n with
  | zero =>
    intro w1 w2 G H locs ls r hT
    rw [x3_peatInTrains_L4] at hT
    cases hT
  | succ n ih =>
    intro w1 w2 G H locs ls r hT Z hl k0
    rw [x3_peatInTrains_L4] at hT
    refine lv_iload_n hx hb dX3_peatInTrains_4 rfl (lv_at hl 2 rfl) ?_
    refine lv_iconst (v := (4 : Int32)) hx hb dX3_peatInTrains_5 (by decide) ?_
    refine lv_icmp_ge (tgt := 32) hx hb dX3_peatInTrains_6 (by decide) (fun h_1 => ?_) (fun h_1 => ?_)
    · replace hT := mx_t hT h_1
      cases hT
      exact k0 _ _ _ Z (lv_sub hl [0, 1] rfl)
    · replace hT := mx_f hT h_1
      refine lv_aload_n hx hb dX3_peatInTrains_9 rfl (lv_at hl 0 rfl) ?_
      refine lv_iload_n hx hb dX3_peatInTrains_10 rfl (lv_at hl 2 rfl) ?_
      obtain ⟨q_2, h_q_2, hT⟩ := mx_bind hT
      refine mx_callV (As := [.int (w2)]) (rest := []) (st1 := [va_re (mad E) q_2]) (C := RX3) (T := TX3) (N := 11) (ci := 3) X Z hl.1 (c3_trainAt l E hJ hy0 _ _ _ h_q_2) wd_11_0 wd_11_1 wd_11_2 wd_1_16 wd_11_3 hd3_trainAt ⟨Nat.le_trans (by decide) hR.1, Nat.le_trans (by decide) hR.2⟩ ⟨Nat.zero_le _, Nat.zero_le _⟩ hy0.i (hy0.c _) rfl (Nat.le_of_ble_eq_true rfl) rfl rfl dX3_peatInTrains_11 (fun H locs Z => ?_)
      have hk_4 := c3_trainAt_k E hy0 _ _ _ h_q_2
      rcases q_2 with _ | o_3
      · replace hT := mx_on hT
        refine mx_tops (s2 := [.null]) rfl ?_
        refine lv_astore_nN (lv' := [(3, .null), (0, .ref (mad E (y0))), (1, .int (w1)), (2, .int (w2))]) hx hb dX3_peatInTrains_14 rfl hl (by decide) rfl (fun ls hl => ?_)
        refine lv_aload_nN hx hb dX3_peatInTrains_15 rfl (lv_at hl 0 rfl) ?_
        refine lv_ifnullN (tgt := 26) hx hb dX3_peatInTrains_16 (by decide) ?_
        obtain ⟨v_5, e_v_5, hT⟩ := mx_nm hT
        refine lv_iinc (v := v_5) (lv' := [(2, .int (v_5)), (3, .null), (0, .ref (mad E (y0))), (1, .int (w1))]) hx hb dX3_peatInTrains_26 hl (k := 3) rfl (by rw [← e_v_5]; rfl) (by decide) rfl (fun ls hl => ?_)
        refine lv_goto (tgt := 4) hx hb dX3_peatInTrains_29 (by decide) ?_
        exact ih _ _ _ _ _ _ _ hT Z (lv_sub hl [2, 3, 0] rfl) k0
      · replace hT := mx_os hT
        refine mx_tops (s2 := [.ref (mad E o_3)]) rfl ?_
        refine lv_astore_n (lv' := [(3, .ref (mad E (o_3))), (0, .ref (mad E (y0))), (1, .int (w1)), (2, .int (w2))]) hx hb dX3_peatInTrains_14 rfl hl (by decide) rfl (fun ls hl => ?_)
        refine lv_aload_n hx hb dX3_peatInTrains_15 rfl (lv_at hl 0 rfl) ?_
        refine lv_ifnull hx hb dX3_peatInTrains_16 ?_
        refine lv_iload_n hx hb dX3_peatInTrains_19 rfl (lv_at hl 2 rfl) ?_
        refine lv_aload_n hx hb dX3_peatInTrains_20 rfl (lv_at hl 0 rfl) ?_
        refine mx_get (v := .int (G o_3 2)) (ci := 4) (C := RX4) (T := TX4) (N := 10) X Z ((hk_4 o_3 rfl)).i (((hk_4 o_3 rfl)).c _) rfl inlX4 2 (by decide) wd_15_6 rfl dX3_peatInTrains_21 ?_
        refine lv_iadd hx hb dX3_peatInTrains_24 ?_
        obtain ⟨v_6, e_v_6, hT⟩ := mx_nm hT
        refine mx_tops (congrArg (fun z => (.int (z) :: [] : List Value)) e_v_6) ?_
        refine lv_istore_n (lv' := [(1, .int (v_6)), (3, .ref (mad E (o_3))), (0, .ref (mad E (y0))), (2, .int (w2))]) hx hb dX3_peatInTrains_25 rfl hl (by decide) rfl (fun ls hl => ?_)
        obtain ⟨v_7, e_v_7, hT⟩ := mx_nm hT
        refine lv_iinc (v := v_7) (lv' := [(2, .int (v_7)), (1, .int (v_6)), (3, .ref (mad E (o_3))), (0, .ref (mad E (y0)))]) hx hb dX3_peatInTrains_26 hl (k := 3) rfl (by rw [← e_v_7]; rfl) (by decide) rfl (fun ls hl => ?_)
        refine lv_goto (tgt := 4) hx hb dX3_peatInTrains_29 (by decide) ?_
        exact ih _ _ _ _ _ _ _ hT Z (lv_sub hl [3, 1, 0] rfl) k0
set_option maxHeartbeats 4000000 in
set_option maxRecDepth 100000 in
theorem c3_peatInTrains (l : Launch) (E : mE) (hJ : mJ E) {c : Nat} (hc : mSt E c) (G : mM) (q : Int32) (hT : x3_peatInTrains c G = some q) : mMet l E yX3_peatInTrains cX3_peatInTrains 4 (some .int) 1 21 [.ref (mad E (c))] G (some (.int q)) G := by
  refine Met.ofW (cc := cX3_peatInTrains) (maxL := 4) (ret := (some .int)) (by decide) rfl ?_
  intro p e s m args below meth cd s₁ B hml hv
  obtain ⟨rfl, hP, hK, hS⟩ := hv
  have X := mx_entry (own := RX3) B hml hK hJ hS rfl
  have hx := X.1
  have hb := X.2.1
  have hown := X.2.2.2.1
  have hts := X.2.2.2.2.1
  have hr := B.returns
  have hlocks := B.notSynchronized
  have hR : 1 ≤ (headSpec (mWs yX3_peatInTrains cX3_peatInTrains 4 (some .int)) ({ frames := 1, cells := 0, slots := 0, locals := 21 })).room.frames ∧ 21 ≤ (headSpec (mWs yX3_peatInTrains cX3_peatInTrains 4 (some .int)) ({ frames := 1, cells := 0, slots := 0, locals := 21 })).room.locals := ⟨Nat.le_refl _, Nat.le_refl _⟩
  have Z : mZ E s.heap s.heap [] G := ⟨hP, va_S.rf⟩
  have hl := lv_entry ([.ref (mad E (c))]) (n := 4) (Nat.le_of_ble_eq_true rfl)
  rw [lg_entry_eq]
  generalize (lg_sl ([.ref (mad E (c))]) ++ List.replicate (4 - (lg_sl ([.ref (mad E (c))])).length) Slot.unset).toArray = ls at hl ⊢
  have hl : lv_has ls 4 [(0, .ref (mad E (c)))] := hl
  unfold x3_peatInTrains at hT
  refine lv_iconst (v := (0 : Int32)) hx hb dX3_peatInTrains_0 (by decide) ?_
  refine lv_istore_n (lv' := [(1, .int ((0 : Int32))), (0, .ref (mad E (c)))]) hx hb dX3_peatInTrains_1 rfl hl (by decide) rfl (fun ls hl => ?_)
  refine lv_iconst (v := (0 : Int32)) hx hb dX3_peatInTrains_2 (by decide) ?_
  refine lv_istore_n (lv' := [(2, .int ((0 : Int32))), (1, .int ((0 : Int32))), (0, .ref (mad E (c)))]) hx hb dX3_peatInTrains_3 rfl hl (by decide) rfl (fun ls hl => ?_)
  obtain ⟨q_8, h_q_8, hT⟩ := mx_bind hT
  refine k3_peatInTrains_4 X hR hJ hc  _ _ _ _ _ _ _ _ h_q_8 Z (lv_sub (l' := [(0, .ref (mad E (c))), (1, .int ((0 : Int32))), (2, .int ((0 : Int32)))]) hl [2, 1, 0] rfl) (fun H locs ls Z hl => ?_)
  · refine lv_iload_n hx hb dX3_peatInTrains_32 rfl (lv_at hl 1 rfl) ?_
    cases hT
    exact W.iret hx hb hr (fun t ht hW => mx_end Z t ht _) Z.2.2.2 dX3_peatInTrains_33
/-! PeatRailway$State.loseAllTrains -/
def x3_loseAllTrains (c : Nat) (G : mM) : Option mM :=
  (x3_peatInTrains c G).bind fun q_1 =>
  mNm (up2 G c 8 ((G c 8) + q_1)) fun G_2 =>
  mNm (up2 G_2 c 4 ((0 : Int32))) fun G_3 =>
  some (G_3)
theorem hd3_loseAllTrains : yX3_loseAllTrains.cls = RX3 ∧ yX3_loseAllTrains.cls ≠ "java/lang/invoke/MethodHandle" ∧ yX3_loseAllTrains.cls ≠ "java/lang/invoke/VarHandle" ∧ (parseMethodDescriptor yX3_loseAllTrains.desc).map (fun d => d.parameters.length) = some 0 := by decide +kernel
set_option maxHeartbeats 4000000 in
set_option maxRecDepth 100000 in
theorem c3_loseAllTrains (l : Launch) (E : mE) (hJ : mJ E) {c : Nat} (hc : mSt E c) (G : mM) (q : mM) (hT : x3_loseAllTrains c G = some q) : mMet l E yX3_loseAllTrains cX3_loseAllTrains 1 none 2 44 [.ref (mad E (c))] G (none) q := by
  refine Met.ofW (cc := cX3_loseAllTrains) (maxL := 1) (ret := none) (by decide) rfl ?_
  intro p e s m args below meth cd s₁ B hml hv
  obtain ⟨rfl, hP, hK, hS⟩ := hv
  have X := mx_entry (own := RX3) B hml hK hJ hS rfl
  have hx := X.1
  have hb := X.2.1
  have hown := X.2.2.2.1
  have hts := X.2.2.2.2.1
  have hr := B.returns
  have hlocks := B.notSynchronized
  have hR : 2 ≤ (headSpec (mWs yX3_loseAllTrains cX3_loseAllTrains 1 none) ({ frames := 2, cells := 0, slots := 0, locals := 44 })).room.frames ∧ 44 ≤ (headSpec (mWs yX3_loseAllTrains cX3_loseAllTrains 1 none) ({ frames := 2, cells := 0, slots := 0, locals := 44 })).room.locals := ⟨Nat.le_refl _, Nat.le_refl _⟩
  have Z : mZ E s.heap s.heap [] G := ⟨hP, va_S.rf⟩
  have hl := lv_entry ([.ref (mad E (c))]) (n := 1) (Nat.le_of_ble_eq_true rfl)
  rw [lg_entry_eq]
  generalize (lg_sl ([.ref (mad E (c))]) ++ List.replicate (1 - (lg_sl ([.ref (mad E (c))])).length) Slot.unset).toArray = ls at hl ⊢
  have hl : lv_has ls 1 [(0, .ref (mad E (c)))] := hl
  unfold x3_loseAllTrains at hT
  refine lv_aload_n hx hb dX3_loseAllTrains_0 rfl (lv_at hl 0 rfl) ?_
  refine lv_dup hx hb dX3_loseAllTrains_1 rfl ?_
  refine mx_get (v := .int (G c 8)) (ci := 3) (C := RX3) (T := TX3) (N := 11) X Z hc.i (hc.c _) rfl inlX3 8 (by decide) wd_8_14 rfl dX3_loseAllTrains_2 ?_
  refine lv_aload_n hx hb dX3_loseAllTrains_5 rfl (lv_at hl 0 rfl) ?_
  obtain ⟨q_1, h_q_1, hT⟩ := mx_bind hT
  refine mx_callV (As := []) (rest := [.int (G c 8), .ref (mad E (c))]) (st1 := [.int (q_1), .int (G c 8), .ref (mad E (c))]) (C := RX3) (T := TX3) (N := 11) (ci := 3) X Z hl.1 (c3_peatInTrains l E hJ hc _ _ h_q_1) wd_22_14 wd_15_3 wd_15_4 wd_1_16 wd_15_5 hd3_peatInTrains ⟨Nat.le_trans (by decide) hR.1, Nat.le_trans (by decide) hR.2⟩ ⟨Nat.zero_le _, Nat.zero_le _⟩ hc.i (hc.c _) rfl (Nat.le_of_ble_eq_true rfl) rfl rfl dX3_loseAllTrains_6 (fun H locs Z => ?_)
  refine lv_iadd hx hb dX3_loseAllTrains_9 ?_
  obtain ⟨G_2, e_G_2, hT⟩ := mx_nm hT
  refine mx_put (ci := 3) (C := RX3) (T := TX3) (N := 11) X Z hc.i (hc.c _) rfl inlX3 tyX3 tyX3_ok nmX3 8 (by decide) wd_8_14 rfl rfl rfl (by show 8 < 11; decide) ((hc.c _).trans (congrArg (fun z => Sum.inr (3, z)) (sp_St_8 (mad E) _ _ _))) dX3_loseAllTrains_10 (fun H locs Z => ?_)
  rw [e_G_2] at Z
  refine lv_aload_n hx hb dX3_loseAllTrains_13 rfl (lv_at hl 0 rfl) ?_
  refine lv_iconst (v := (0 : Int32)) hx hb dX3_loseAllTrains_14 (by decide) ?_
  obtain ⟨G_3, e_G_3, hT⟩ := mx_nm hT
  refine mx_put (ci := 3) (C := RX3) (T := TX3) (N := 11) X Z hc.i (hc.c _) rfl inlX3 tyX3 tyX3_ok nmX3 4 (by decide) wd_8_10 rfl rfl rfl (by show 4 < 11; decide) ((hc.c _).trans (congrArg (fun z => Sum.inr (3, z)) (sp_St_4 (mad E) _ _ _))) dX3_loseAllTrains_15 (fun H locs Z => ?_)
  rw [e_G_3] at Z
  cases hT
  exact W.vret hx hb hr (fun t ht hW => mx_end Z t ht _) Z.2.2.2 dX3_loseAllTrains_18
/-! PeatRailway$State.beginTrack -/
def x3_beginTrack (c : Nat) (G : mM) : Option mM :=
  mNm (up2 G c 3 ((0 : Int32))) fun G_1 =>
  some (G_1)
theorem hd3_beginTrack : yX3_beginTrack.cls = RX3 ∧ yX3_beginTrack.cls ≠ "java/lang/invoke/MethodHandle" ∧ yX3_beginTrack.cls ≠ "java/lang/invoke/VarHandle" ∧ (parseMethodDescriptor yX3_beginTrack.desc).map (fun d => d.parameters.length) = some 0 := by decide +kernel
set_option maxHeartbeats 4000000 in
set_option maxRecDepth 100000 in
theorem c3_beginTrack (l : Launch) (E : mE) (hJ : mJ E) {c : Nat} (hc : mSt E c) (G : mM) (q : mM) (hT : x3_beginTrack c G = some q) : mMet l E yX3_beginTrack cX3_beginTrack 1 none 0 0 [.ref (mad E (c))] G (none) q := by
  refine Met.ofW (cc := cX3_beginTrack) (maxL := 1) (ret := none) (by decide) rfl ?_
  intro p e s m args below meth cd s₁ B hml hv
  obtain ⟨rfl, hP, hK, hS⟩ := hv
  have X := mx_entry (own := RX3) B hml hK hJ hS rfl
  have hx := X.1
  have hb := X.2.1
  have hown := X.2.2.2.1
  have hts := X.2.2.2.2.1
  have hr := B.returns
  have hlocks := B.notSynchronized
  have hR : 0 ≤ (headSpec (mWs yX3_beginTrack cX3_beginTrack 1 none) ({ frames := 0, cells := 0, slots := 0, locals := 0 })).room.frames ∧ 0 ≤ (headSpec (mWs yX3_beginTrack cX3_beginTrack 1 none) ({ frames := 0, cells := 0, slots := 0, locals := 0 })).room.locals := ⟨Nat.le_refl _, Nat.le_refl _⟩
  have Z : mZ E s.heap s.heap [] G := ⟨hP, va_S.rf⟩
  have hl := lv_entry ([.ref (mad E (c))]) (n := 1) (Nat.le_of_ble_eq_true rfl)
  rw [lg_entry_eq]
  generalize (lg_sl ([.ref (mad E (c))]) ++ List.replicate (1 - (lg_sl ([.ref (mad E (c))])).length) Slot.unset).toArray = ls at hl ⊢
  have hl : lv_has ls 1 [(0, .ref (mad E (c)))] := hl
  unfold x3_beginTrack at hT
  refine lv_aload_n hx hb dX3_beginTrack_0 rfl (lv_at hl 0 rfl) ?_
  refine lv_iconst (v := (0 : Int32)) hx hb dX3_beginTrack_1 (by decide) ?_
  obtain ⟨G_1, e_G_1, hT⟩ := mx_nm hT
  refine mx_put (ci := 3) (C := RX3) (T := TX3) (N := 11) X Z hc.i (hc.c _) rfl inlX3 tyX3 tyX3_ok nmX3 3 (by decide) wd_5_16 rfl rfl rfl (by show 3 < 11; decide) ((hc.c _).trans (congrArg (fun z => Sum.inr (3, z)) (sp_St_3 (mad E) _ _ _))) dX3_beginTrack_2 (fun H locs Z => ?_)
  rw [e_G_1] at Z
  cases hT
  exact W.vret hx hb hr (fun t ht hW => mx_end Z t ht _) Z.2.2.2 dX3_beginTrack_5
/-! PeatRailway$State.segmentAt -/
def x3_segmentAt (c : Nat) (x1 : Int32) (G : mM) : Option (Option Nat) :=
  if x1 < 0 then
    some (none)
  else
    if (G c 3) ≤ x1 then
      some (none)
    else
      if x1 < ((12 : Int32)) then
        mCk (mIn x1 12) <|
        some (some (c + 4 + x1.toNatClampNeg))
      else
        some (none)
theorem hd3_segmentAt : yX3_segmentAt.cls = RX3 ∧ yX3_segmentAt.cls ≠ "java/lang/invoke/MethodHandle" ∧ yX3_segmentAt.cls ≠ "java/lang/invoke/VarHandle" ∧ (parseMethodDescriptor yX3_segmentAt.desc).map (fun d => d.parameters.length) = some 1 := by decide +kernel
set_option maxHeartbeats 4000000 in
set_option maxRecDepth 100000 in
theorem c3_segmentAt (l : Launch) (E : mE) (hJ : mJ E) {c : Nat} (hc : mSt E c) (x1 : Int32) (G : mM) (q : (Option Nat)) (hT : x3_segmentAt c x1 G = some q) : mMet l E yX3_segmentAt cX3_segmentAt 2 (some (.object "PeatRailway$Segment")) 0 0 [.ref (mad E (c)), .int (x1)] G (some (va_re (mad E) q)) G := by
  refine Met.ofW (cc := cX3_segmentAt) (maxL := 2) (ret := (some (.object "PeatRailway$Segment"))) (by decide) rfl ?_
  intro p e s m args below meth cd s₁ B hml hv
  obtain ⟨rfl, hP, hK, hS⟩ := hv
  have X := mx_entry (own := RX3) B hml hK hJ hS rfl
  have hx := X.1
  have hb := X.2.1
  have hown := X.2.2.2.1
  have hts := X.2.2.2.2.1
  have hr := B.returns
  have hlocks := B.notSynchronized
  have hR : 0 ≤ (headSpec (mWs yX3_segmentAt cX3_segmentAt 2 (some (.object "PeatRailway$Segment"))) ({ frames := 0, cells := 0, slots := 0, locals := 0 })).room.frames ∧ 0 ≤ (headSpec (mWs yX3_segmentAt cX3_segmentAt 2 (some (.object "PeatRailway$Segment"))) ({ frames := 0, cells := 0, slots := 0, locals := 0 })).room.locals := ⟨Nat.le_refl _, Nat.le_refl _⟩
  have Z : mZ E s.heap s.heap [] G := ⟨hP, va_S.rf⟩
  have hl := lv_entry ([.ref (mad E (c)), .int (x1)]) (n := 2) (Nat.le_of_ble_eq_true rfl)
  rw [lg_entry_eq]
  generalize (lg_sl ([.ref (mad E (c)), .int (x1)]) ++ List.replicate (2 - (lg_sl ([.ref (mad E (c)), .int (x1)])).length) Slot.unset).toArray = ls at hl ⊢
  have hl : lv_has ls 2 [(0, .ref (mad E (c))), (1, .int (x1))] := hl
  unfold x3_segmentAt at hT
  refine lv_iload_n hx hb dX3_segmentAt_0 rfl (lv_at hl 1 rfl) ?_
  refine lv_if_lt (tgt := 21) hx hb dX3_segmentAt_1 (by decide) (fun h_1 => ?_) (fun h_1 => ?_)
  · replace hT := mx_t hT h_1
    refine lv_null hx hb dX3_segmentAt_21 ?_
    cases hT
    exact W.aret hx hb hr (Or.inl ⟨_, rfl⟩) (Or.inl rfl) (fun t ht hW => mx_end Z t ht _) Z.2.2.2 dX3_segmentAt_22
  · replace hT := mx_f hT h_1
    refine lv_iload_n hx hb dX3_segmentAt_4 rfl (lv_at hl 1 rfl) ?_
    refine lv_aload_n hx hb dX3_segmentAt_5 rfl (lv_at hl 0 rfl) ?_
    refine mx_get (v := .int (G c 3)) (ci := 3) (C := RX3) (T := TX3) (N := 11) X Z hc.i (hc.c _) rfl inlX3 3 (by decide) wd_5_16 rfl dX3_segmentAt_6 ?_
    refine lv_icmp_ge (tgt := 21) hx hb dX3_segmentAt_9 (by decide) (fun h_2 => ?_) (fun h_2 => ?_)
    · replace hT := mx_t hT h_2
      refine lv_null hx hb dX3_segmentAt_21 ?_
      cases hT
      exact W.aret hx hb hr (Or.inl ⟨_, rfl⟩) (Or.inl rfl) (fun t ht hW => mx_end Z t ht _) Z.2.2.2 dX3_segmentAt_22
    · replace hT := mx_f hT h_2
      refine lv_iload_n hx hb dX3_segmentAt_12 rfl (lv_at hl 1 rfl) ?_
      refine lv_aload_n hx hb dX3_segmentAt_13 rfl (lv_at hl 0 rfl) ?_
      refine mx_get (v := .ref (mad E ((c + 1)))) (ci := 3) (C := RX3) (T := TX3) (N := 11) X Z hc.i (hc.c _) rfl inlX3 0 (by decide) wd_4_18 rfl dX3_segmentAt_14 ?_
      refine mx_alen (t := 2) (v := (12 : Int32)) X Z hc.segs.1 (hc.segs.2 _) rfl rfl dX3_segmentAt_17 ?_
      refine lv_icmp_lt (tgt := 23) hx hb dX3_segmentAt_18 (by decide) (fun h_3 => ?_) (fun h_3 => ?_)
      · replace hT := mx_t hT h_3
        refine lv_aload_n hx hb dX3_segmentAt_23 rfl (lv_at hl 0 rfl) ?_
        refine mx_get (v := .ref (mad E ((c + 1)))) (ci := 3) (C := RX3) (T := TX3) (N := 11) X Z hc.i (hc.c _) rfl inlX3 0 (by decide) wd_4_18 rfl dX3_segmentAt_24 ?_
        refine lv_iload_n hx hb dX3_segmentAt_27 rfl (lv_at hl 1 rfl) ?_
        obtain ⟨h_4, hT⟩ := mx_chk hT
        refine mx_aald (C := "PeatRailway$Segment") X Z hc.segs rfl h_4 dX3_segmentAt_28 ?_
        refine mx_tops (s2 := [.ref (mad E (c + 4 + x1.toNatClampNeg))]) rfl ?_
        cases hT
        exact W.aret hx hb hr (Or.inl ⟨_, rfl⟩) (Or.inr ⟨_, rfl⟩) (fun t ht hW => mx_end Z t ht _) Z.2.2.2 dX3_segmentAt_29
      · replace hT := mx_f hT h_3
        refine lv_null hx hb dX3_segmentAt_21 ?_
        cases hT
        exact W.aret hx hb hr (Or.inl ⟨_, rfl⟩) (Or.inl rfl) (fun t ht hW => mx_end Z t ht _) Z.2.2.2 dX3_segmentAt_22
theorem c3_segmentAt_k (E : mE) {c : Nat} (hc : mSt E c) (x1 : Int32) (G : mM) (q : Option Nat) (hT : x3_segmentAt c x1 G = some q) : ∀ o, q = some o → mSg E o := by
  unfold x3_segmentAt at hT
  intro o ho
  subst ho
  simp only [mCk] at hT
  repeat' (split at hT)
  all_goals first
    | (cases hT; done)
    | (cases hT; exact hc.seg (mx_lit (by assumption)))
/-! PeatRailway$Segment.layDown -/
def x2_layDown (c : Nat) (x1 : Int32) (G : mM) : Option mM :=
  mNm (up2 G c 0 x1) fun G_1 =>
  mNm (up2 G_1 c 1 ((1 : Int32))) fun G_2 =>
  mNm (up2 G_2 c 2 ((0 : Int32))) fun G_3 =>
  some (G_3)
theorem hd2_layDown : yX2_layDown.cls = RX2 ∧ yX2_layDown.cls ≠ "java/lang/invoke/MethodHandle" ∧ yX2_layDown.cls ≠ "java/lang/invoke/VarHandle" ∧ (parseMethodDescriptor yX2_layDown.desc).map (fun d => d.parameters.length) = some 1 := by decide +kernel
set_option maxHeartbeats 4000000 in
set_option maxRecDepth 100000 in
theorem c2_layDown (l : Launch) (E : mE) (hJ : mJ E) {c : Nat} (hc : mSg E c) (x1 : Int32) (G : mM) (q : mM) (hT : x2_layDown c x1 G = some q) : mMet l E yX2_layDown cX2_layDown 2 none 0 0 [.ref (mad E (c)), .int (x1)] G (none) q := by
  refine Met.ofW (cc := cX2_layDown) (maxL := 2) (ret := none) (by decide) rfl ?_
  intro p e s m args below meth cd s₁ B hml hv
  obtain ⟨rfl, hP, hK, hS⟩ := hv
  have X := mx_entry (own := RX2) B hml hK hJ hS rfl
  have hx := X.1
  have hb := X.2.1
  have hown := X.2.2.2.1
  have hts := X.2.2.2.2.1
  have hr := B.returns
  have hlocks := B.notSynchronized
  have hR : 0 ≤ (headSpec (mWs yX2_layDown cX2_layDown 2 none) ({ frames := 0, cells := 0, slots := 0, locals := 0 })).room.frames ∧ 0 ≤ (headSpec (mWs yX2_layDown cX2_layDown 2 none) ({ frames := 0, cells := 0, slots := 0, locals := 0 })).room.locals := ⟨Nat.le_refl _, Nat.le_refl _⟩
  have Z : mZ E s.heap s.heap [] G := ⟨hP, va_S.rf⟩
  have hl := lv_entry ([.ref (mad E (c)), .int (x1)]) (n := 2) (Nat.le_of_ble_eq_true rfl)
  rw [lg_entry_eq]
  generalize (lg_sl ([.ref (mad E (c)), .int (x1)]) ++ List.replicate (2 - (lg_sl ([.ref (mad E (c)), .int (x1)])).length) Slot.unset).toArray = ls at hl ⊢
  have hl : lv_has ls 2 [(0, .ref (mad E (c))), (1, .int (x1))] := hl
  unfold x2_layDown at hT
  refine lv_aload_n hx hb dX2_layDown_0 rfl (lv_at hl 0 rfl) ?_
  refine lv_iload_n hx hb dX2_layDown_1 rfl (lv_at hl 1 rfl) ?_
  obtain ⟨G_1, e_G_1, hT⟩ := mx_nm hT
  refine mx_put (ci := 2) (C := RX2) (T := TX2) (N := 6) X Z hc.i (hc.c _) rfl inlX2 tyX2 tyX2_ok nmX2 0 (by decide) wd_6_12 rfl rfl rfl (by show 0 < 6; decide) ((hc.c _).trans (congrArg (fun z => Sum.inr (2, z)) (sp_Sg_0 _ _ _))) dX2_layDown_2 (fun H locs Z => ?_)
  rw [e_G_1] at Z
  refine lv_aload_n hx hb dX2_layDown_5 rfl (lv_at hl 0 rfl) ?_
  refine lv_iconst (v := (1 : Int32)) hx hb dX2_layDown_6 (by decide) ?_
  obtain ⟨G_2, e_G_2, hT⟩ := mx_nm hT
  refine mx_put (ci := 2) (C := RX2) (T := TX2) (N := 6) X Z hc.i (hc.c _) rfl inlX2 tyX2 tyX2_ok nmX2 1 (by decide) wd_6_13 rfl rfl rfl (by show 1 < 6; decide) ((hc.c _).trans (congrArg (fun z => Sum.inr (2, z)) (sp_Sg_1 _ _ _))) dX2_layDown_7 (fun H locs Z => ?_)
  rw [e_G_2] at Z
  refine lv_aload_n hx hb dX2_layDown_10 rfl (lv_at hl 0 rfl) ?_
  refine lv_iconst (v := (0 : Int32)) hx hb dX2_layDown_11 (by decide) ?_
  obtain ⟨G_3, e_G_3, hT⟩ := mx_nm hT
  refine mx_put (ci := 2) (C := RX2) (T := TX2) (N := 6) X Z hc.i (hc.c _) rfl inlX2 tyX2 tyX2_ok nmX2 2 (by decide) wd_6_14 rfl rfl rfl (by show 2 < 6; decide) ((hc.c _).trans (congrArg (fun z => Sum.inr (2, z)) (sp_Sg_2 _ _ _))) dX2_layDown_12 (fun H locs Z => ?_)
  rw [e_G_3] at Z
  cases hT
  exact W.vret hx hb hr (fun t ht hW => mx_end Z t ht _) Z.2.2.2 dX2_layDown_15
/-! PeatRailway$State.appendSegment -/
def x3_appendSegment (c : Nat) (x1 : Int32) (G : mM) : Option mM :=
  mNm (up2 G c 3 ((G c 3) + ((1 : Int32)))) fun G_1 =>
  (x3_segmentAt c ((G_1 c 3) - ((1 : Int32))) G_1).bind fun q_2 =>
  mOpt q_2 (
    some (G_1)) fun o_3 =>
    (x2_layDown o_3 x1 G_1).bind fun q_5 =>
    some (q_5)
theorem hd3_appendSegment : yX3_appendSegment.cls = RX3 ∧ yX3_appendSegment.cls ≠ "java/lang/invoke/MethodHandle" ∧ yX3_appendSegment.cls ≠ "java/lang/invoke/VarHandle" ∧ (parseMethodDescriptor yX3_appendSegment.desc).map (fun d => d.parameters.length) = some 1 := by decide +kernel
set_option maxHeartbeats 4000000 in
set_option maxRecDepth 100000 in
theorem c3_appendSegment (l : Launch) (E : mE) (hJ : mJ E) {c : Nat} (hc : mSt E c) (x1 : Int32) (G : mM) (q : mM) (hT : x3_appendSegment c x1 G = some q) : mMet l E yX3_appendSegment cX3_appendSegment 3 none 1 21 [.ref (mad E (c)), .int (x1)] G (none) q := by
  refine Met.ofW (cc := cX3_appendSegment) (maxL := 3) (ret := none) (by decide) rfl ?_
  intro p e s m args below meth cd s₁ B hml hv
  obtain ⟨rfl, hP, hK, hS⟩ := hv
  have X := mx_entry (own := RX3) B hml hK hJ hS rfl
  have hx := X.1
  have hb := X.2.1
  have hown := X.2.2.2.1
  have hts := X.2.2.2.2.1
  have hr := B.returns
  have hlocks := B.notSynchronized
  have hR : 1 ≤ (headSpec (mWs yX3_appendSegment cX3_appendSegment 3 none) ({ frames := 1, cells := 0, slots := 0, locals := 21 })).room.frames ∧ 21 ≤ (headSpec (mWs yX3_appendSegment cX3_appendSegment 3 none) ({ frames := 1, cells := 0, slots := 0, locals := 21 })).room.locals := ⟨Nat.le_refl _, Nat.le_refl _⟩
  have Z : mZ E s.heap s.heap [] G := ⟨hP, va_S.rf⟩
  have hl := lv_entry ([.ref (mad E (c)), .int (x1)]) (n := 3) (Nat.le_of_ble_eq_true rfl)
  rw [lg_entry_eq]
  generalize (lg_sl ([.ref (mad E (c)), .int (x1)]) ++ List.replicate (3 - (lg_sl ([.ref (mad E (c)), .int (x1)])).length) Slot.unset).toArray = ls at hl ⊢
  have hl : lv_has ls 3 [(0, .ref (mad E (c))), (1, .int (x1))] := hl
  unfold x3_appendSegment at hT
  refine lv_aload_n hx hb dX3_appendSegment_0 rfl (lv_at hl 0 rfl) ?_
  refine lv_dup hx hb dX3_appendSegment_1 rfl ?_
  refine mx_get (v := .int (G c 3)) (ci := 3) (C := RX3) (T := TX3) (N := 11) X Z hc.i (hc.c _) rfl inlX3 3 (by decide) wd_5_16 rfl dX3_appendSegment_2 ?_
  refine lv_iconst (v := (1 : Int32)) hx hb dX3_appendSegment_5 (by decide) ?_
  refine lv_iadd hx hb dX3_appendSegment_6 ?_
  obtain ⟨G_1, e_G_1, hT⟩ := mx_nm hT
  refine mx_put (ci := 3) (C := RX3) (T := TX3) (N := 11) X Z hc.i (hc.c _) rfl inlX3 tyX3 tyX3_ok nmX3 3 (by decide) wd_5_16 rfl rfl rfl (by show 3 < 11; decide) ((hc.c _).trans (congrArg (fun z => Sum.inr (3, z)) (sp_St_3 (mad E) _ _ _))) dX3_appendSegment_7 (fun H locs Z => ?_)
  rw [e_G_1] at Z
  refine lv_aload_n hx hb dX3_appendSegment_10 rfl (lv_at hl 0 rfl) ?_
  refine lv_aload_n hx hb dX3_appendSegment_11 rfl (lv_at hl 0 rfl) ?_
  refine mx_get (v := .int (G_1 c 3)) (ci := 3) (C := RX3) (T := TX3) (N := 11) X Z hc.i (hc.c _) rfl inlX3 3 (by decide) wd_5_16 rfl dX3_appendSegment_12 ?_
  refine lv_iconst (v := (1 : Int32)) hx hb dX3_appendSegment_15 (by decide) ?_
  refine lv_isub hx hb dX3_appendSegment_16 ?_
  obtain ⟨q_2, h_q_2, hT⟩ := mx_bind hT
  refine mx_callV (As := [.int ((G_1 c 3) - ((1 : Int32)))]) (rest := []) (st1 := [va_re (mad E) q_2]) (C := RX3) (T := TX3) (N := 11) (ci := 3) X Z hl.1 (c3_segmentAt l E hJ hc _ _ _ h_q_2) wd_6_4 wd_6_5 wd_6_6 wd_1_16 wd_6_7 hd3_segmentAt ⟨Nat.le_trans (by decide) hR.1, Nat.le_trans (by decide) hR.2⟩ ⟨Nat.zero_le _, Nat.zero_le _⟩ hc.i (hc.c _) rfl (Nat.le_of_ble_eq_true rfl) rfl rfl dX3_appendSegment_17 (fun H locs Z => ?_)
  have hk_4 := c3_segmentAt_k E hc _ _ _ h_q_2
  rcases q_2 with _ | o_3
  · replace hT := mx_on hT
    refine mx_tops (s2 := [.null]) rfl ?_
    refine lv_astore_nN (lv' := [(2, .null), (0, .ref (mad E (c))), (1, .int (x1))]) hx hb dX3_appendSegment_20 rfl hl (by decide) rfl (fun ls hl => ?_)
    refine lv_aload_nN hx hb dX3_appendSegment_21 rfl (lv_at hl 0 rfl) ?_
    refine lv_ifnullN (tgt := 30) hx hb dX3_appendSegment_22 (by decide) ?_
    cases hT
    exact W.vret hx hb hr (fun t ht hW => mx_end Z t ht _) Z.2.2.2 dX3_appendSegment_30
  · replace hT := mx_os hT
    refine mx_tops (s2 := [.ref (mad E o_3)]) rfl ?_
    refine lv_astore_n (lv' := [(2, .ref (mad E (o_3))), (0, .ref (mad E (c))), (1, .int (x1))]) hx hb dX3_appendSegment_20 rfl hl (by decide) rfl (fun ls hl => ?_)
    refine lv_aload_n hx hb dX3_appendSegment_21 rfl (lv_at hl 0 rfl) ?_
    refine lv_ifnull hx hb dX3_appendSegment_22 ?_
    refine lv_aload_n hx hb dX3_appendSegment_25 rfl (lv_at hl 0 rfl) ?_
    refine lv_iload_n hx hb dX3_appendSegment_26 rfl (lv_at hl 2 rfl) ?_
    obtain ⟨q_5, h_q_5, hT⟩ := mx_bind hT
    refine mx_callV (As := [.int (x1)]) (rest := []) (st1 := []) (C := RX2) (T := TX2) (N := 6) (ci := 2) X Z hl.1 (c2_layDown l E hJ ((hk_4 o_3 rfl)) _ _ _ h_q_5) wd_6_8 wd_6_9 wd_6_10 wd_4_20 wd_6_11 hd2_layDown ⟨Nat.le_trans (by decide) hR.1, Nat.le_trans (by decide) hR.2⟩ ⟨Nat.zero_le _, Nat.zero_le _⟩ ((hk_4 o_3 rfl)).i (((hk_4 o_3 rfl)).c _) rfl (Nat.le_of_ble_eq_true rfl) rfl rfl dX3_appendSegment_27 (fun H locs Z => ?_)
    cases hT
    exact W.vret hx hb hr (fun t ht hW => mx_end Z t ht _) Z.2.2.2 dX3_appendSegment_30
/-! PeatRailway$State.widenLatestSegment -/
def x3_widenLatestSegment (c : Nat) (G : mM) : Option mM :=
  (x3_segmentAt c ((G c 3) - ((1 : Int32))) G).bind fun q_1 =>
  mOpt q_1 (
    some (G)) fun o_2 =>
    mNm (up2 G o_2 1 ((2 : Int32))) fun G_4 =>
    some (G_4)
theorem hd3_widenLatestSegment : yX3_widenLatestSegment.cls = RX3 ∧ yX3_widenLatestSegment.cls ≠ "java/lang/invoke/MethodHandle" ∧ yX3_widenLatestSegment.cls ≠ "java/lang/invoke/VarHandle" ∧ (parseMethodDescriptor yX3_widenLatestSegment.desc).map (fun d => d.parameters.length) = some 0 := by decide +kernel
set_option maxHeartbeats 4000000 in
set_option maxRecDepth 100000 in
theorem c3_widenLatestSegment (l : Launch) (E : mE) (hJ : mJ E) {c : Nat} (hc : mSt E c) (G : mM) (q : mM) (hT : x3_widenLatestSegment c G = some q) : mMet l E yX3_widenLatestSegment cX3_widenLatestSegment 2 none 1 21 [.ref (mad E (c))] G (none) q := by
  refine Met.ofW (cc := cX3_widenLatestSegment) (maxL := 2) (ret := none) (by decide) rfl ?_
  intro p e s m args below meth cd s₁ B hml hv
  obtain ⟨rfl, hP, hK, hS⟩ := hv
  have X := mx_entry (own := RX3) B hml hK hJ hS rfl
  have hx := X.1
  have hb := X.2.1
  have hown := X.2.2.2.1
  have hts := X.2.2.2.2.1
  have hr := B.returns
  have hlocks := B.notSynchronized
  have hR : 1 ≤ (headSpec (mWs yX3_widenLatestSegment cX3_widenLatestSegment 2 none) ({ frames := 1, cells := 0, slots := 0, locals := 21 })).room.frames ∧ 21 ≤ (headSpec (mWs yX3_widenLatestSegment cX3_widenLatestSegment 2 none) ({ frames := 1, cells := 0, slots := 0, locals := 21 })).room.locals := ⟨Nat.le_refl _, Nat.le_refl _⟩
  have Z : mZ E s.heap s.heap [] G := ⟨hP, va_S.rf⟩
  have hl := lv_entry ([.ref (mad E (c))]) (n := 2) (Nat.le_of_ble_eq_true rfl)
  rw [lg_entry_eq]
  generalize (lg_sl ([.ref (mad E (c))]) ++ List.replicate (2 - (lg_sl ([.ref (mad E (c))])).length) Slot.unset).toArray = ls at hl ⊢
  have hl : lv_has ls 2 [(0, .ref (mad E (c)))] := hl
  unfold x3_widenLatestSegment at hT
  refine lv_aload_n hx hb dX3_widenLatestSegment_0 rfl (lv_at hl 0 rfl) ?_
  refine lv_aload_n hx hb dX3_widenLatestSegment_1 rfl (lv_at hl 0 rfl) ?_
  refine mx_get (v := .int (G c 3)) (ci := 3) (C := RX3) (T := TX3) (N := 11) X Z hc.i (hc.c _) rfl inlX3 3 (by decide) wd_5_16 rfl dX3_widenLatestSegment_2 ?_
  refine lv_iconst (v := (1 : Int32)) hx hb dX3_widenLatestSegment_5 (by decide) ?_
  refine lv_isub hx hb dX3_widenLatestSegment_6 ?_
  obtain ⟨q_1, h_q_1, hT⟩ := mx_bind hT
  refine mx_callV (As := [.int ((G c 3) - ((1 : Int32)))]) (rest := []) (st1 := [va_re (mad E) q_1]) (C := RX3) (T := TX3) (N := 11) (ci := 3) X Z hl.1 (c3_segmentAt l E hJ hc _ _ _ h_q_1) wd_6_4 wd_6_5 wd_6_6 wd_1_16 wd_6_7 hd3_segmentAt ⟨Nat.le_trans (by decide) hR.1, Nat.le_trans (by decide) hR.2⟩ ⟨Nat.zero_le _, Nat.zero_le _⟩ hc.i (hc.c _) rfl (Nat.le_of_ble_eq_true rfl) rfl rfl dX3_widenLatestSegment_7 (fun H locs Z => ?_)
  have hk_3 := c3_segmentAt_k E hc _ _ _ h_q_1
  rcases q_1 with _ | o_2
  · replace hT := mx_on hT
    refine mx_tops (s2 := [.null]) rfl ?_
    refine lv_astore_nN (lv' := [(1, .null), (0, .ref (mad E (c)))]) hx hb dX3_widenLatestSegment_10 rfl hl (by decide) rfl (fun ls hl => ?_)
    refine lv_aload_nN hx hb dX3_widenLatestSegment_11 rfl (lv_at hl 0 rfl) ?_
    refine lv_ifnullN (tgt := 20) hx hb dX3_widenLatestSegment_12 (by decide) ?_
    cases hT
    exact W.vret hx hb hr (fun t ht hW => mx_end Z t ht _) Z.2.2.2 dX3_widenLatestSegment_20
  · replace hT := mx_os hT
    refine mx_tops (s2 := [.ref (mad E o_2)]) rfl ?_
    refine lv_astore_n (lv' := [(1, .ref (mad E (o_2))), (0, .ref (mad E (c)))]) hx hb dX3_widenLatestSegment_10 rfl hl (by decide) rfl (fun ls hl => ?_)
    refine lv_aload_n hx hb dX3_widenLatestSegment_11 rfl (lv_at hl 0 rfl) ?_
    refine lv_ifnull hx hb dX3_widenLatestSegment_12 ?_
    refine lv_aload_n hx hb dX3_widenLatestSegment_15 rfl (lv_at hl 0 rfl) ?_
    refine lv_iconst (v := (2 : Int32)) hx hb dX3_widenLatestSegment_16 (by decide) ?_
    obtain ⟨G_4, e_G_4, hT⟩ := mx_nm hT
    refine mx_put (ci := 2) (C := RX2) (T := TX2) (N := 6) X Z ((hk_3 o_2 rfl)).i (((hk_3 o_2 rfl)).c _) rfl inlX2 tyX2 tyX2_ok nmX2 1 (by decide) wd_6_19 rfl rfl rfl (by show 1 < 6; decide) ((((hk_3 o_2 rfl)).c _).trans (congrArg (fun z => Sum.inr (2, z)) (sp_Sg_1 _ _ _))) dX3_widenLatestSegment_17 (fun H locs Z => ?_)
    rw [e_G_4] at Z
    cases hT
    exact W.vret hx hb hr (fun t ht hW => mx_end Z t ht _) Z.2.2.2 dX3_widenLatestSegment_20
/-! PeatRailway$Segment.isPassingPlace -/
def x2_isPassingPlace (c : Nat) (G : mM) : Option Int32 :=
  if (G c 1) < ((2 : Int32)) then
    some ((0 : Int32))
  else
    some ((1 : Int32))
theorem hd2_isPassingPlace : yX2_isPassingPlace.cls = RX2 ∧ yX2_isPassingPlace.cls ≠ "java/lang/invoke/MethodHandle" ∧ yX2_isPassingPlace.cls ≠ "java/lang/invoke/VarHandle" ∧ (parseMethodDescriptor yX2_isPassingPlace.desc).map (fun d => d.parameters.length) = some 0 := by decide +kernel
set_option maxHeartbeats 4000000 in
set_option maxRecDepth 100000 in
theorem c2_isPassingPlace (l : Launch) (E : mE) (hJ : mJ E) {c : Nat} (hc : mSg E c) (G : mM) (q : Int32) (hT : x2_isPassingPlace c G = some q) : mMet l E yX2_isPassingPlace cX2_isPassingPlace 1 (some .boolean) 0 0 [.ref (mad E (c))] G (some (.int q)) G := by
  refine Met.ofW (cc := cX2_isPassingPlace) (maxL := 1) (ret := (some .boolean)) (by decide) rfl ?_
  intro p e s m args below meth cd s₁ B hml hv
  obtain ⟨rfl, hP, hK, hS⟩ := hv
  have X := mx_entry (own := RX2) B hml hK hJ hS rfl
  have hx := X.1
  have hb := X.2.1
  have hown := X.2.2.2.1
  have hts := X.2.2.2.2.1
  have hr := B.returns
  have hlocks := B.notSynchronized
  have hR : 0 ≤ (headSpec (mWs yX2_isPassingPlace cX2_isPassingPlace 1 (some .boolean)) ({ frames := 0, cells := 0, slots := 0, locals := 0 })).room.frames ∧ 0 ≤ (headSpec (mWs yX2_isPassingPlace cX2_isPassingPlace 1 (some .boolean)) ({ frames := 0, cells := 0, slots := 0, locals := 0 })).room.locals := ⟨Nat.le_refl _, Nat.le_refl _⟩
  have Z : mZ E s.heap s.heap [] G := ⟨hP, va_S.rf⟩
  have hl := lv_entry ([.ref (mad E (c))]) (n := 1) (Nat.le_of_ble_eq_true rfl)
  rw [lg_entry_eq]
  generalize (lg_sl ([.ref (mad E (c))]) ++ List.replicate (1 - (lg_sl ([.ref (mad E (c))])).length) Slot.unset).toArray = ls at hl ⊢
  have hl : lv_has ls 1 [(0, .ref (mad E (c)))] := hl
  unfold x2_isPassingPlace at hT
  refine lv_aload_n hx hb dX2_isPassingPlace_0 rfl (lv_at hl 0 rfl) ?_
  refine mx_get (v := .int (G c 1)) (ci := 2) (C := RX2) (T := TX2) (N := 6) X Z hc.i (hc.c _) rfl inlX2 1 (by decide) wd_6_13 rfl dX2_isPassingPlace_1 ?_
  refine lv_iconst (v := (2 : Int32)) hx hb dX2_isPassingPlace_4 (by decide) ?_
  refine lv_icmp_lt (tgt := 12) hx hb dX2_isPassingPlace_5 (by decide) (fun h_1 => ?_) (fun h_1 => ?_)
  · replace hT := mx_t hT h_1
    refine lv_iconst (v := (0 : Int32)) hx hb dX2_isPassingPlace_12 (by decide) ?_
    cases hT
    exact W.zret (v := (0 : Int32)) hx hb hr rfl (fun t ht hW => mx_end Z t ht _) Z.2.2.2 dX2_isPassingPlace_13
  · replace hT := mx_f hT h_1
    refine lv_iconst (v := (1 : Int32)) hx hb dX2_isPassingPlace_8 (by decide) ?_
    refine lv_goto (tgt := 13) hx hb dX2_isPassingPlace_9 (by decide) ?_
    cases hT
    exact W.zret (v := (1 : Int32)) hx hb hr rfl (fun t ht hW => mx_end Z t ht _) Z.2.2.2 dX2_isPassingPlace_13
/-! PeatRailway$State.endTrack -/
def x3_endTrack_L40 (y0 : Nat) : Nat → Int32 → Int32 → mM → Option (Int32 × mM)
  | 0, _, _, _ => none
  | n + 1, w3, w4, G =>
    if ((12 : Int32)) ≤ w4 then
      some (w3, G)
    else
      (x3_segmentAt y0 w4 G).bind fun q_8 =>
      mOpt q_8 (
        mNm (w4 + (1 : Int32)) fun v_11 =>
        x3_endTrack_L40 y0 n w3 v_11 G) fun o_9 =>
        mNm (up2 G o_9 4 w3) fun G_12 =>
        (x2_isPassingPlace o_9 G_12).bind fun q_13 =>
        if q_13 = 0 then
          mNm (w4 + (1 : Int32)) fun v_15 =>
          x3_endTrack_L40 y0 n w3 v_15 G_12
        else
          mNm (w4 + (1 : Int32)) fun v_16 =>
          x3_endTrack_L40 y0 n w4 v_16 G_12
def x3_endTrack_L91 (y0 : Nat) : Nat → Int32 → Int32 → mM → Option (mM)
  | 0, _, _, _ => none
  | n + 1, w3, w4, G =>
    if w4 < 0 then
      some (G)
    else
      (x3_segmentAt y0 w4 G).bind fun q_19 =>
      mOpt q_19 (
        mNm (w4 + (-1 : Int32)) fun v_22 =>
        x3_endTrack_L91 y0 n w3 v_22 G) fun o_20 =>
        mNm (up2 G o_20 3 w3) fun G_23 =>
        (x2_isPassingPlace o_20 G_23).bind fun q_24 =>
        if q_24 = 0 then
          mNm (w4 + (-1 : Int32)) fun v_26 =>
          x3_endTrack_L91 y0 n w3 v_26 G_23
        else
          mNm (w4 + (-1 : Int32)) fun v_27 =>
          x3_endTrack_L91 y0 n w4 v_27 G_23
def x3_endTrack (c : Nat) (G : mM) : Option mM :=
  (x3_segmentAt c ((0 : Int32)) G).bind fun q_1 =>
  mOpt q_1 (
    (x3_segmentAt c ((G c 3) - ((1 : Int32))) G).bind fun q_4 =>
    mOpt q_4 (
      (x3_endTrack_L40 c mFu ((0 : Int32)) ((0 : Int32)) G).bind fun q_17 =>
      (x3_endTrack_L91 c mFu q_17.1 ((11 : Int32)) q_17.2).bind fun q_28 =>
      some (q_28)) fun o_5 =>
      (x3_endTrack_L40 c mFu ((0 : Int32)) ((0 : Int32)) G).bind fun q_29 =>
      (x3_endTrack_L91 c mFu q_29.1 ((11 : Int32)) q_29.2).bind fun q_30 =>
      some (q_30)) fun o_2 =>
    (x3_segmentAt c ((G c 3) - ((1 : Int32))) G).bind fun q_31 =>
    mOpt q_31 (
      (x3_endTrack_L40 c mFu ((0 : Int32)) ((0 : Int32)) G).bind fun q_34 =>
      (x3_endTrack_L91 c mFu q_34.1 ((11 : Int32)) q_34.2).bind fun q_35 =>
      some (q_35)) fun o_32 =>
      mNm (up2 G o_2 1 ((4 : Int32))) fun G_36 =>
      mNm (up2 G_36 o_32 1 ((4 : Int32))) fun G_37 =>
      (x3_endTrack_L40 c mFu ((0 : Int32)) ((0 : Int32)) G_37).bind fun q_38 =>
      (x3_endTrack_L91 c mFu q_38.1 ((11 : Int32)) q_38.2).bind fun q_39 =>
      some (q_39)
theorem hd3_endTrack : yX3_endTrack.cls = RX3 ∧ yX3_endTrack.cls ≠ "java/lang/invoke/MethodHandle" ∧ yX3_endTrack.cls ≠ "java/lang/invoke/VarHandle" ∧ (parseMethodDescriptor yX3_endTrack.desc).map (fun d => d.parameters.length) = some 0 := by decide +kernel
set_option maxHeartbeats 4000000 in
set_option maxRecDepth 100000 in
theorem k3_endTrack_40 {p : Program} {l : Launch} {e : Env} {R : Room} {s : State} {m : MethodId} {args : Array Value} {below : List Frame} {meth : Method} {cd : Code} {Q : State → Prop} {E : mE} (X : mX p s m args cd cX3_endTrack 6 RX3 E) (hR : 1 ≤ R.frames ∧ 21 ≤ R.locals) (hJ : mJ E) {y0 : Nat} (hy0 : mSt E y0) : ∀ (n : Nat) (w3 : Int32) (w4 : Int32) (G : mM) (H : Heap) (locs : List Loc) (ls : Array Slot) (r : Int32 × mM), x3_endTrack_L40 y0 n w3 w4 G = some r → mZ E s.heap H locs G → lv_has ls 6 [(0, .ref (mad E (y0))), (3, .int (w3)), (4, .int (w4))] → (∀ (H : Heap) (locs : List Loc) (ls : Array Slot), mZ E s.heap H locs r.2 → lv_has ls 6 [(0, .ref (mad E (y0))), (3, .int (r.1))] → W p l e R s m args below meth cd H locs 0 0 Q (F0 m 87 ls [])) → W p l e R s m args below meth cd H locs 0 0 Q (F0 m 40 ls []) := by
  have hx := X.1
  have hb := X.2.1
  have hown := X.2.2.2.1
  have hts := X.2.2.2.2.1
  intro n
  induction n with
  | zero =>
    intro w3 w4 G H locs ls r hT
    rw [x3_endTrack_L40] at hT
    cases hT
  | succ n ih =>
    intro w3 w4 G H locs ls r hT Z hl k0
    rw [x3_endTrack_L40] at hT
    refine lv_iload hx hb dX3_endTrack_40 (lv_at hl 2 rfl) ?_
    refine lv_bipush (v := (12 : Int32)) hx hb dX3_endTrack_42 (by decide) ?_
    refine lv_icmp_ge (tgt := 87) hx hb dX3_endTrack_44 (by decide) (fun h_7 => ?_) (fun h_7 => ?_)
    · replace hT := mx_t hT h_7
      cases hT
      exact k0 _ _ _ Z (lv_sub hl [0, 1] rfl)
    · replace hT := mx_f hT h_7
      refine lv_aload_n hx hb dX3_endTrack_47 rfl (lv_at hl 0 rfl) ?_
      refine lv_iload hx hb dX3_endTrack_48 (lv_at hl 2 rfl) ?_
      obtain ⟨q_8, h_q_8, hT⟩ := mx_bind hT
      refine mx_callV (As := [.int (w4)]) (rest := []) (st1 := [va_re (mad E) q_8]) (C := RX3) (T := TX3) (N := 11) (ci := 3) X Z hl.1 (c3_segmentAt l E hJ hy0 _ _ _ h_q_8) wd_6_4 wd_6_5 wd_6_6 wd_1_16 wd_6_7 hd3_segmentAt ⟨Nat.le_trans (by decide) hR.1, Nat.le_trans (by decide) hR.2⟩ ⟨Nat.zero_le _, Nat.zero_le _⟩ hy0.i (hy0.c _) rfl (Nat.le_of_ble_eq_true rfl) rfl rfl dX3_endTrack_50 (fun H locs Z => ?_)
      have hk_10 := c3_segmentAt_k E hy0 _ _ _ h_q_8
      rcases q_8 with _ | o_9
      · replace hT := mx_on hT
        refine mx_tops (s2 := [.null]) rfl ?_
        refine lv_astoreN (lv' := [(5, .null), (0, .ref (mad E (y0))), (3, .int (w3)), (4, .int (w4))]) hx hb dX3_endTrack_53 hl (by decide) rfl (fun ls hl => ?_)
        refine lv_aloadN hx hb dX3_endTrack_55 (lv_at hl 0 rfl) ?_
        refine lv_ifnullN (tgt := 81) hx hb dX3_endTrack_57 (by decide) ?_
        obtain ⟨v_11, e_v_11, hT⟩ := mx_nm hT
        refine lv_iinc (v := v_11) (lv' := [(4, .int (v_11)), (5, .null), (0, .ref (mad E (y0))), (3, .int (w3))]) hx hb dX3_endTrack_81 hl (k := 3) rfl (by rw [← e_v_11]; rfl) (by decide) rfl (fun ls hl => ?_)
        refine lv_goto (tgt := 40) hx hb dX3_endTrack_84 (by decide) ?_
        exact ih _ _ _ _ _ _ _ hT Z (lv_sub hl [2, 3, 0] rfl) k0
      · replace hT := mx_os hT
        refine mx_tops (s2 := [.ref (mad E o_9)]) rfl ?_
        refine lv_astore (lv' := [(5, .ref (mad E (o_9))), (0, .ref (mad E (y0))), (3, .int (w3)), (4, .int (w4))]) hx hb dX3_endTrack_53 hl (by decide) rfl (fun ls hl => ?_)
        refine lv_aload hx hb dX3_endTrack_55 (lv_at hl 0 rfl) ?_
        refine lv_ifnull hx hb dX3_endTrack_57 ?_
        refine lv_aload hx hb dX3_endTrack_60 (lv_at hl 0 rfl) ?_
        refine lv_iload_n hx hb dX3_endTrack_62 rfl (lv_at hl 2 rfl) ?_
        obtain ⟨G_12, e_G_12, hT⟩ := mx_nm hT
        refine mx_put (ci := 2) (C := RX2) (T := TX2) (N := 6) X Z ((hk_10 o_9 rfl)).i (((hk_10 o_9 rfl)).c _) rfl inlX2 tyX2 tyX2_ok nmX2 4 (by decide) wd_7_0 rfl rfl rfl (by show 4 < 6; decide) ((((hk_10 o_9 rfl)).c _).trans (congrArg (fun z => Sum.inr (2, z)) (sp_Sg_4 _ _ _))) dX3_endTrack_63 (fun H locs Z => ?_)
        rw [e_G_12] at Z
        refine lv_aload hx hb dX3_endTrack_66 (lv_at hl 0 rfl) ?_
        obtain ⟨q_13, h_q_13, hT⟩ := mx_bind hT
        refine mx_callV (As := []) (rest := []) (st1 := [.int (q_13)]) (C := RX2) (T := TX2) (N := 6) (ci := 2) X Z hl.1 (c2_isPassingPlace l E hJ ((hk_10 o_9 rfl)) _ _ h_q_13) wd_7_2 wd_7_3 wd_7_4 wd_4_20 wd_7_5 hd2_isPassingPlace ⟨Nat.le_trans (by decide) hR.1, Nat.le_trans (by decide) hR.2⟩ ⟨Nat.zero_le _, Nat.zero_le _⟩ ((hk_10 o_9 rfl)).i (((hk_10 o_9 rfl)).c _) rfl (Nat.le_of_ble_eq_true rfl) rfl rfl dX3_endTrack_68 (fun H locs Z => ?_)
        refine lv_if_eq (tgt := 79) hx hb dX3_endTrack_71 (by decide) (fun h_14 => ?_) (fun h_14 => ?_)
        · replace hT := mx_t hT h_14
          refine lv_iload_n hx hb dX3_endTrack_79 rfl (lv_at hl 2 rfl) ?_
          refine lv_istore_n (lv' := [(3, .int (w3)), (5, .ref (mad E (o_9))), (0, .ref (mad E (y0))), (4, .int (w4))]) hx hb dX3_endTrack_80 rfl hl (by decide) rfl (fun ls hl => ?_)
          obtain ⟨v_15, e_v_15, hT⟩ := mx_nm hT
          refine lv_iinc (v := v_15) (lv' := [(4, .int (v_15)), (3, .int (w3)), (5, .ref (mad E (o_9))), (0, .ref (mad E (y0)))]) hx hb dX3_endTrack_81 hl (k := 3) rfl (by rw [← e_v_15]; rfl) (by decide) rfl (fun ls hl => ?_)
          refine lv_goto (tgt := 40) hx hb dX3_endTrack_84 (by decide) ?_
          exact ih _ _ _ _ _ _ _ hT Z (lv_sub hl [3, 1, 0] rfl) k0
        · replace hT := mx_f hT h_14
          refine lv_iload hx hb dX3_endTrack_74 (lv_at hl 3 rfl) ?_
          refine lv_goto (tgt := 80) hx hb dX3_endTrack_76 (by decide) ?_
          refine lv_istore_n (lv' := [(3, .int (w4)), (5, .ref (mad E (o_9))), (0, .ref (mad E (y0))), (4, .int (w4))]) hx hb dX3_endTrack_80 rfl hl (by decide) rfl (fun ls hl => ?_)
          obtain ⟨v_16, e_v_16, hT⟩ := mx_nm hT
          refine lv_iinc (v := v_16) (lv' := [(4, .int (v_16)), (3, .int (w4)), (5, .ref (mad E (o_9))), (0, .ref (mad E (y0)))]) hx hb dX3_endTrack_81 hl (k := 3) rfl (by rw [← e_v_16]; rfl) (by decide) rfl (fun ls hl => ?_)
          refine lv_goto (tgt := 40) hx hb dX3_endTrack_84 (by decide) ?_
          exact ih _ _ _ _ _ _ _ hT Z (lv_sub hl [3, 1, 0] rfl) k0
set_option maxHeartbeats 4000000 in
set_option maxRecDepth 100000 in
theorem k3_endTrack_91 {p : Program} {l : Launch} {e : Env} {R : Room} {s : State} {m : MethodId} {args : Array Value} {below : List Frame} {meth : Method} {cd : Code} {Q : State → Prop} {E : mE} (X : mX p s m args cd cX3_endTrack 6 RX3 E) (hR : 1 ≤ R.frames ∧ 21 ≤ R.locals) (hJ : mJ E) {y0 : Nat} (hy0 : mSt E y0) : ∀ (n : Nat) (w3 : Int32) (w4 : Int32) (G : mM) (H : Heap) (locs : List Loc) (ls : Array Slot) (r : mM), x3_endTrack_L91 y0 n w3 w4 G = some r → mZ E s.heap H locs G → lv_has ls 6 [(0, .ref (mad E (y0))), (3, .int (w3)), (4, .int (w4))] → (∀ (H : Heap) (locs : List Loc) (ls : Array Slot), mZ E s.heap H locs r → lv_has ls 6 [(0, .ref (mad E (y0)))] → W p l e R s m args below meth cd H locs 0 0 Q (F0 m 136 ls [])) → W p l e R s m args below meth cd H locs 0 0 Q (F0 m 91 ls []) := by
  have hx := X.1
  have hb := X.2.1
  have hown := X.2.2.2.1
  have hts := X.2.2.2.2.1
  intro n
  induction n with
  | zero =>
    intro w3 w4 G H locs ls r hT
    rw [x3_endTrack_L91] at hT
    cases hT
  | succ n ih =>
    intro w3 w4 G H locs ls r hT Z hl k0
    rw [x3_endTrack_L91] at hT
    refine lv_iload hx hb dX3_endTrack_91 (lv_at hl 2 rfl) ?_
    refine lv_if_lt (tgt := 136) hx hb dX3_endTrack_93 (by decide) (fun h_18 => ?_) (fun h_18 => ?_)
    · replace hT := mx_t hT h_18
      cases hT
      exact k0 _ _ _ Z (lv_sub hl [0] rfl)
    · replace hT := mx_f hT h_18
      refine lv_aload_n hx hb dX3_endTrack_96 rfl (lv_at hl 0 rfl) ?_
      refine lv_iload hx hb dX3_endTrack_97 (lv_at hl 2 rfl) ?_
      obtain ⟨q_19, h_q_19, hT⟩ := mx_bind hT
      refine mx_callV (As := [.int (w4)]) (rest := []) (st1 := [va_re (mad E) q_19]) (C := RX3) (T := TX3) (N := 11) (ci := 3) X Z hl.1 (c3_segmentAt l E hJ hy0 _ _ _ h_q_19) wd_6_4 wd_6_5 wd_6_6 wd_1_16 wd_6_7 hd3_segmentAt ⟨Nat.le_trans (by decide) hR.1, Nat.le_trans (by decide) hR.2⟩ ⟨Nat.zero_le _, Nat.zero_le _⟩ hy0.i (hy0.c _) rfl (Nat.le_of_ble_eq_true rfl) rfl rfl dX3_endTrack_99 (fun H locs Z => ?_)
      have hk_21 := c3_segmentAt_k E hy0 _ _ _ h_q_19
      rcases q_19 with _ | o_20
      · replace hT := mx_on hT
        refine mx_tops (s2 := [.null]) rfl ?_
        refine lv_astoreN (lv' := [(5, .null), (0, .ref (mad E (y0))), (3, .int (w3)), (4, .int (w4))]) hx hb dX3_endTrack_102 hl (by decide) rfl (fun ls hl => ?_)
        refine lv_aloadN hx hb dX3_endTrack_104 (lv_at hl 0 rfl) ?_
        refine lv_ifnullN (tgt := 130) hx hb dX3_endTrack_106 (by decide) ?_
        obtain ⟨v_22, e_v_22, hT⟩ := mx_nm hT
        refine lv_iinc (v := v_22) (lv' := [(4, .int (v_22)), (5, .null), (0, .ref (mad E (y0))), (3, .int (w3))]) hx hb dX3_endTrack_130 hl (k := 3) rfl (by rw [← e_v_22]; rfl) (by decide) rfl (fun ls hl => ?_)
        refine lv_goto (tgt := 91) hx hb dX3_endTrack_133 (by decide) ?_
        exact ih _ _ _ _ _ _ _ hT Z (lv_sub hl [2, 3, 0] rfl) k0
      · replace hT := mx_os hT
        refine mx_tops (s2 := [.ref (mad E o_20)]) rfl ?_
        refine lv_astore (lv' := [(5, .ref (mad E (o_20))), (0, .ref (mad E (y0))), (3, .int (w3)), (4, .int (w4))]) hx hb dX3_endTrack_102 hl (by decide) rfl (fun ls hl => ?_)
        refine lv_aload hx hb dX3_endTrack_104 (lv_at hl 0 rfl) ?_
        refine lv_ifnull hx hb dX3_endTrack_106 ?_
        refine lv_aload hx hb dX3_endTrack_109 (lv_at hl 0 rfl) ?_
        refine lv_iload_n hx hb dX3_endTrack_111 rfl (lv_at hl 2 rfl) ?_
        obtain ⟨G_23, e_G_23, hT⟩ := mx_nm hT
        refine mx_put (ci := 2) (C := RX2) (T := TX2) (N := 6) X Z ((hk_21 o_20 rfl)).i (((hk_21 o_20 rfl)).c _) rfl inlX2 tyX2 tyX2_ok nmX2 3 (by decide) wd_7_1 rfl rfl rfl (by show 3 < 6; decide) ((((hk_21 o_20 rfl)).c _).trans (congrArg (fun z => Sum.inr (2, z)) (sp_Sg_3 _ _ _))) dX3_endTrack_112 (fun H locs Z => ?_)
        rw [e_G_23] at Z
        refine lv_aload hx hb dX3_endTrack_115 (lv_at hl 0 rfl) ?_
        obtain ⟨q_24, h_q_24, hT⟩ := mx_bind hT
        refine mx_callV (As := []) (rest := []) (st1 := [.int (q_24)]) (C := RX2) (T := TX2) (N := 6) (ci := 2) X Z hl.1 (c2_isPassingPlace l E hJ ((hk_21 o_20 rfl)) _ _ h_q_24) wd_7_2 wd_7_3 wd_7_4 wd_4_20 wd_7_5 hd2_isPassingPlace ⟨Nat.le_trans (by decide) hR.1, Nat.le_trans (by decide) hR.2⟩ ⟨Nat.zero_le _, Nat.zero_le _⟩ ((hk_21 o_20 rfl)).i (((hk_21 o_20 rfl)).c _) rfl (Nat.le_of_ble_eq_true rfl) rfl rfl dX3_endTrack_117 (fun H locs Z => ?_)
        refine lv_if_eq (tgt := 128) hx hb dX3_endTrack_120 (by decide) (fun h_25 => ?_) (fun h_25 => ?_)
        · replace hT := mx_t hT h_25
          refine lv_iload_n hx hb dX3_endTrack_128 rfl (lv_at hl 2 rfl) ?_
          refine lv_istore_n (lv' := [(3, .int (w3)), (5, .ref (mad E (o_20))), (0, .ref (mad E (y0))), (4, .int (w4))]) hx hb dX3_endTrack_129 rfl hl (by decide) rfl (fun ls hl => ?_)
          obtain ⟨v_26, e_v_26, hT⟩ := mx_nm hT
          refine lv_iinc (v := v_26) (lv' := [(4, .int (v_26)), (3, .int (w3)), (5, .ref (mad E (o_20))), (0, .ref (mad E (y0)))]) hx hb dX3_endTrack_130 hl (k := 3) rfl (by rw [← e_v_26]; rfl) (by decide) rfl (fun ls hl => ?_)
          refine lv_goto (tgt := 91) hx hb dX3_endTrack_133 (by decide) ?_
          exact ih _ _ _ _ _ _ _ hT Z (lv_sub hl [3, 1, 0] rfl) k0
        · replace hT := mx_f hT h_25
          refine lv_iload hx hb dX3_endTrack_123 (lv_at hl 3 rfl) ?_
          refine lv_goto (tgt := 129) hx hb dX3_endTrack_125 (by decide) ?_
          refine lv_istore_n (lv' := [(3, .int (w4)), (5, .ref (mad E (o_20))), (0, .ref (mad E (y0))), (4, .int (w4))]) hx hb dX3_endTrack_129 rfl hl (by decide) rfl (fun ls hl => ?_)
          obtain ⟨v_27, e_v_27, hT⟩ := mx_nm hT
          refine lv_iinc (v := v_27) (lv' := [(4, .int (v_27)), (3, .int (w4)), (5, .ref (mad E (o_20))), (0, .ref (mad E (y0)))]) hx hb dX3_endTrack_130 hl (k := 3) rfl (by rw [← e_v_27]; rfl) (by decide) rfl (fun ls hl => ?_)
          refine lv_goto (tgt := 91) hx hb dX3_endTrack_133 (by decide) ?_
          exact ih _ _ _ _ _ _ _ hT Z (lv_sub hl [3, 1, 0] rfl) k0
set_option maxHeartbeats 4000000 in
set_option maxRecDepth 100000 in
theorem c3_endTrack (l : Launch) (E : mE) (hJ : mJ E) {c : Nat} (hc : mSt E c) (G : mM) (q : mM) (hT : x3_endTrack c G = some q) : mMet l E yX3_endTrack cX3_endTrack 6 none 1 21 [.ref (mad E (c))] G (none) q := by
  refine Met.ofW (cc := cX3_endTrack) (maxL := 6) (ret := none) (by decide) rfl ?_
  intro p e s m args below meth cd s₁ B hml hv
  obtain ⟨rfl, hP, hK, hS⟩ := hv
  have X := mx_entry (own := RX3) B hml hK hJ hS rfl
  have hx := X.1
  have hb := X.2.1
  have hown := X.2.2.2.1
  have hts := X.2.2.2.2.1
  have hr := B.returns
  have hlocks := B.notSynchronized
  have hR : 1 ≤ (headSpec (mWs yX3_endTrack cX3_endTrack 6 none) ({ frames := 1, cells := 0, slots := 0, locals := 21 })).room.frames ∧ 21 ≤ (headSpec (mWs yX3_endTrack cX3_endTrack 6 none) ({ frames := 1, cells := 0, slots := 0, locals := 21 })).room.locals := ⟨Nat.le_refl _, Nat.le_refl _⟩
  have Z : mZ E s.heap s.heap [] G := ⟨hP, va_S.rf⟩
  have hl := lv_entry ([.ref (mad E (c))]) (n := 6) (Nat.le_of_ble_eq_true rfl)
  rw [lg_entry_eq]
  generalize (lg_sl ([.ref (mad E (c))]) ++ List.replicate (6 - (lg_sl ([.ref (mad E (c))])).length) Slot.unset).toArray = ls at hl ⊢
  have hl : lv_has ls 6 [(0, .ref (mad E (c)))] := hl
  unfold x3_endTrack at hT
  refine lv_aload_n hx hb dX3_endTrack_0 rfl (lv_at hl 0 rfl) ?_
  refine lv_iconst (v := (0 : Int32)) hx hb dX3_endTrack_1 (by decide) ?_
  obtain ⟨q_1, h_q_1, hT⟩ := mx_bind hT
  refine mx_callV (As := [.int ((0 : Int32))]) (rest := []) (st1 := [va_re (mad E) q_1]) (C := RX3) (T := TX3) (N := 11) (ci := 3) X Z hl.1 (c3_segmentAt l E hJ hc _ _ _ h_q_1) wd_6_4 wd_6_5 wd_6_6 wd_1_16 wd_6_7 hd3_segmentAt ⟨Nat.le_trans (by decide) hR.1, Nat.le_trans (by decide) hR.2⟩ ⟨Nat.zero_le _, Nat.zero_le _⟩ hc.i (hc.c _) rfl (Nat.le_of_ble_eq_true rfl) rfl rfl dX3_endTrack_2 (fun H locs Z => ?_)
  have hk_3 := c3_segmentAt_k E hc _ _ _ h_q_1
  rcases q_1 with _ | o_2
  · replace hT := mx_on hT
    refine mx_tops (s2 := [.null]) rfl ?_
    refine lv_astore_nN (lv' := [(1, .null), (0, .ref (mad E (c)))]) hx hb dX3_endTrack_5 rfl hl (by decide) rfl (fun ls hl => ?_)
    refine lv_aload_n hx hb dX3_endTrack_6 rfl (lv_at hl 1 rfl) ?_
    refine lv_aload_n hx hb dX3_endTrack_7 rfl (lv_at hl 1 rfl) ?_
    refine mx_get (v := .int (G c 3)) (ci := 3) (C := RX3) (T := TX3) (N := 11) X Z hc.i (hc.c _) rfl inlX3 3 (by decide) wd_5_16 rfl dX3_endTrack_8 ?_
    refine lv_iconst (v := (1 : Int32)) hx hb dX3_endTrack_11 (by decide) ?_
    refine lv_isub hx hb dX3_endTrack_12 ?_
    obtain ⟨q_4, h_q_4, hT⟩ := mx_bind hT
    refine mx_callV (As := [.int ((G c 3) - ((1 : Int32)))]) (rest := []) (st1 := [va_re (mad E) q_4]) (C := RX3) (T := TX3) (N := 11) (ci := 3) X Z hl.1 (c3_segmentAt l E hJ hc _ _ _ h_q_4) wd_6_4 wd_6_5 wd_6_6 wd_1_16 wd_6_7 hd3_segmentAt ⟨Nat.le_trans (by decide) hR.1, Nat.le_trans (by decide) hR.2⟩ ⟨Nat.zero_le _, Nat.zero_le _⟩ hc.i (hc.c _) rfl (Nat.le_of_ble_eq_true rfl) rfl rfl dX3_endTrack_13 (fun H locs Z => ?_)
    have hk_6 := c3_segmentAt_k E hc _ _ _ h_q_4
    rcases q_4 with _ | o_5
    · replace hT := mx_on hT
      refine mx_tops (s2 := [.null]) rfl ?_
      refine lv_astore_nN (lv' := [(2, .null), (1, .null), (0, .ref (mad E (c)))]) hx hb dX3_endTrack_16 rfl hl (by decide) rfl (fun ls hl => ?_)
      refine lv_aload_nN hx hb dX3_endTrack_17 rfl (lv_at hl 1 rfl) ?_
      refine lv_ifnullN (tgt := 35) hx hb dX3_endTrack_18 (by decide) ?_
      refine lv_iconst (v := (0 : Int32)) hx hb dX3_endTrack_35 (by decide) ?_
      refine lv_istore_n (lv' := [(3, .int ((0 : Int32))), (2, .null), (1, .null), (0, .ref (mad E (c)))]) hx hb dX3_endTrack_36 rfl hl (by decide) rfl (fun ls hl => ?_)
      refine lv_iconst (v := (0 : Int32)) hx hb dX3_endTrack_37 (by decide) ?_
      refine lv_istore (lv' := [(4, .int ((0 : Int32))), (3, .int ((0 : Int32))), (2, .null), (1, .null), (0, .ref (mad E (c)))]) hx hb dX3_endTrack_38 hl (by decide) rfl (fun ls hl => ?_)
      obtain ⟨q_17, h_q_17, hT⟩ := mx_bind hT
      refine k3_endTrack_40 X hR hJ hc  _ _ _ _ _ _ _ _ h_q_17 Z (lv_sub (l' := [(0, .ref (mad E (c))), (3, .int ((0 : Int32))), (4, .int ((0 : Int32)))]) hl [4, 1, 0] rfl) (fun H locs ls Z hl => ?_)
      · refine lv_bipush (v := (11 : Int32)) hx hb dX3_endTrack_87 (by decide) ?_
        refine lv_istore (lv' := [(4, .int ((11 : Int32))), (0, .ref (mad E (c))), (3, .int (q_17.1))]) hx hb dX3_endTrack_89 hl (by decide) rfl (fun ls hl => ?_)
        obtain ⟨q_28, h_q_28, hT⟩ := mx_bind hT
        refine k3_endTrack_91 X hR hJ hc  _ _ _ _ _ _ _ _ h_q_28 Z (lv_sub (l' := [(0, .ref (mad E (c))), (3, .int (q_17.1)), (4, .int ((11 : Int32)))]) hl [1, 2, 0] rfl) (fun H locs ls Z hl => ?_)
        · cases hT
          exact W.vret hx hb hr (fun t ht hW => mx_end Z t ht _) Z.2.2.2 dX3_endTrack_136
    · replace hT := mx_os hT
      refine mx_tops (s2 := [.ref (mad E o_5)]) rfl ?_
      refine lv_astore_n (lv' := [(2, .ref (mad E (o_5))), (1, .null), (0, .ref (mad E (c)))]) hx hb dX3_endTrack_16 rfl hl (by decide) rfl (fun ls hl => ?_)
      refine lv_aload_nN hx hb dX3_endTrack_17 rfl (lv_at hl 1 rfl) ?_
      refine lv_ifnullN (tgt := 35) hx hb dX3_endTrack_18 (by decide) ?_
      refine lv_iconst (v := (0 : Int32)) hx hb dX3_endTrack_35 (by decide) ?_
      refine lv_istore_n (lv' := [(3, .int ((0 : Int32))), (2, .ref (mad E (o_5))), (1, .null), (0, .ref (mad E (c)))]) hx hb dX3_endTrack_36 rfl hl (by decide) rfl (fun ls hl => ?_)
      refine lv_iconst (v := (0 : Int32)) hx hb dX3_endTrack_37 (by decide) ?_
      refine lv_istore (lv' := [(4, .int ((0 : Int32))), (3, .int ((0 : Int32))), (2, .ref (mad E (o_5))), (1, .null), (0, .ref (mad E (c)))]) hx hb dX3_endTrack_38 hl (by decide) rfl (fun ls hl => ?_)
      obtain ⟨q_29, h_q_29, hT⟩ := mx_bind hT
      refine k3_endTrack_40 X hR hJ hc  _ _ _ _ _ _ _ _ h_q_29 Z (lv_sub (l' := [(0, .ref (mad E (c))), (3, .int ((0 : Int32))), (4, .int ((0 : Int32)))]) hl [4, 1, 0] rfl) (fun H locs ls Z hl => ?_)
      · refine lv_bipush (v := (11 : Int32)) hx hb dX3_endTrack_87 (by decide) ?_
        refine lv_istore (lv' := [(4, .int ((11 : Int32))), (0, .ref (mad E (c))), (3, .int (q_29.1))]) hx hb dX3_endTrack_89 hl (by decide) rfl (fun ls hl => ?_)
        obtain ⟨q_30, h_q_30, hT⟩ := mx_bind hT
        refine k3_endTrack_91 X hR hJ hc  _ _ _ _ _ _ _ _ h_q_30 Z (lv_sub (l' := [(0, .ref (mad E (c))), (3, .int (q_29.1)), (4, .int ((11 : Int32)))]) hl [1, 2, 0] rfl) (fun H locs ls Z hl => ?_)
        · cases hT
          exact W.vret hx hb hr (fun t ht hW => mx_end Z t ht _) Z.2.2.2 dX3_endTrack_136
  · replace hT := mx_os hT
    refine mx_tops (s2 := [.ref (mad E o_2)]) rfl ?_
    refine lv_astore_n (lv' := [(1, .ref (mad E (o_2))), (0, .ref (mad E (c)))]) hx hb dX3_endTrack_5 rfl hl (by decide) rfl (fun ls hl => ?_)
    refine lv_aload_n hx hb dX3_endTrack_6 rfl (lv_at hl 1 rfl) ?_
    refine lv_aload_n hx hb dX3_endTrack_7 rfl (lv_at hl 1 rfl) ?_
    refine mx_get (v := .int (G c 3)) (ci := 3) (C := RX3) (T := TX3) (N := 11) X Z hc.i (hc.c _) rfl inlX3 3 (by decide) wd_5_16 rfl dX3_endTrack_8 ?_
    refine lv_iconst (v := (1 : Int32)) hx hb dX3_endTrack_11 (by decide) ?_
    refine lv_isub hx hb dX3_endTrack_12 ?_
    obtain ⟨q_31, h_q_31, hT⟩ := mx_bind hT
    refine mx_callV (As := [.int ((G c 3) - ((1 : Int32)))]) (rest := []) (st1 := [va_re (mad E) q_31]) (C := RX3) (T := TX3) (N := 11) (ci := 3) X Z hl.1 (c3_segmentAt l E hJ hc _ _ _ h_q_31) wd_6_4 wd_6_5 wd_6_6 wd_1_16 wd_6_7 hd3_segmentAt ⟨Nat.le_trans (by decide) hR.1, Nat.le_trans (by decide) hR.2⟩ ⟨Nat.zero_le _, Nat.zero_le _⟩ hc.i (hc.c _) rfl (Nat.le_of_ble_eq_true rfl) rfl rfl dX3_endTrack_13 (fun H locs Z => ?_)
    have hk_33 := c3_segmentAt_k E hc _ _ _ h_q_31
    rcases q_31 with _ | o_32
    · replace hT := mx_on hT
      refine mx_tops (s2 := [.null]) rfl ?_
      refine lv_astore_nN (lv' := [(2, .null), (1, .ref (mad E (o_2))), (0, .ref (mad E (c)))]) hx hb dX3_endTrack_16 rfl hl (by decide) rfl (fun ls hl => ?_)
      refine lv_aload_n hx hb dX3_endTrack_17 rfl (lv_at hl 1 rfl) ?_
      refine lv_ifnull hx hb dX3_endTrack_18 ?_
      refine lv_aload_nN hx hb dX3_endTrack_21 rfl (lv_at hl 0 rfl) ?_
      refine lv_ifnullN (tgt := 35) hx hb dX3_endTrack_22 (by decide) ?_
      refine lv_iconst (v := (0 : Int32)) hx hb dX3_endTrack_35 (by decide) ?_
      refine lv_istore_n (lv' := [(3, .int ((0 : Int32))), (2, .null), (1, .ref (mad E (o_2))), (0, .ref (mad E (c)))]) hx hb dX3_endTrack_36 rfl hl (by decide) rfl (fun ls hl => ?_)
      refine lv_iconst (v := (0 : Int32)) hx hb dX3_endTrack_37 (by decide) ?_
      refine lv_istore (lv' := [(4, .int ((0 : Int32))), (3, .int ((0 : Int32))), (2, .null), (1, .ref (mad E (o_2))), (0, .ref (mad E (c)))]) hx hb dX3_endTrack_38 hl (by decide) rfl (fun ls hl => ?_)
      obtain ⟨q_34, h_q_34, hT⟩ := mx_bind hT
      refine k3_endTrack_40 X hR hJ hc  _ _ _ _ _ _ _ _ h_q_34 Z (lv_sub (l' := [(0, .ref (mad E (c))), (3, .int ((0 : Int32))), (4, .int ((0 : Int32)))]) hl [4, 1, 0] rfl) (fun H locs ls Z hl => ?_)
      · refine lv_bipush (v := (11 : Int32)) hx hb dX3_endTrack_87 (by decide) ?_
        refine lv_istore (lv' := [(4, .int ((11 : Int32))), (0, .ref (mad E (c))), (3, .int (q_34.1))]) hx hb dX3_endTrack_89 hl (by decide) rfl (fun ls hl => ?_)
        obtain ⟨q_35, h_q_35, hT⟩ := mx_bind hT
        refine k3_endTrack_91 X hR hJ hc  _ _ _ _ _ _ _ _ h_q_35 Z (lv_sub (l' := [(0, .ref (mad E (c))), (3, .int (q_34.1)), (4, .int ((11 : Int32)))]) hl [1, 2, 0] rfl) (fun H locs ls Z hl => ?_)
        · cases hT
          exact W.vret hx hb hr (fun t ht hW => mx_end Z t ht _) Z.2.2.2 dX3_endTrack_136
    · replace hT := mx_os hT
      refine mx_tops (s2 := [.ref (mad E o_32)]) rfl ?_
      refine lv_astore_n (lv' := [(2, .ref (mad E (o_32))), (1, .ref (mad E (o_2))), (0, .ref (mad E (c)))]) hx hb dX3_endTrack_16 rfl hl (by decide) rfl (fun ls hl => ?_)
      refine lv_aload_n hx hb dX3_endTrack_17 rfl (lv_at hl 1 rfl) ?_
      refine lv_ifnull hx hb dX3_endTrack_18 ?_
      refine lv_aload_n hx hb dX3_endTrack_21 rfl (lv_at hl 0 rfl) ?_
      refine lv_ifnull hx hb dX3_endTrack_22 ?_
      refine lv_aload_n hx hb dX3_endTrack_25 rfl (lv_at hl 1 rfl) ?_
      refine lv_iconst (v := (4 : Int32)) hx hb dX3_endTrack_26 (by decide) ?_
      obtain ⟨G_36, e_G_36, hT⟩ := mx_nm hT
      refine mx_put (ci := 2) (C := RX2) (T := TX2) (N := 6) X Z ((hk_3 o_2 rfl)).i (((hk_3 o_2 rfl)).c _) rfl inlX2 tyX2 tyX2_ok nmX2 1 (by decide) wd_6_19 rfl rfl rfl (by show 1 < 6; decide) ((((hk_3 o_2 rfl)).c _).trans (congrArg (fun z => Sum.inr (2, z)) (sp_Sg_1 _ _ _))) dX3_endTrack_27 (fun H locs Z => ?_)
      rw [e_G_36] at Z
      refine lv_aload_n hx hb dX3_endTrack_30 rfl (lv_at hl 0 rfl) ?_
      refine lv_iconst (v := (4 : Int32)) hx hb dX3_endTrack_31 (by decide) ?_
      obtain ⟨G_37, e_G_37, hT⟩ := mx_nm hT
      refine mx_put (ci := 2) (C := RX2) (T := TX2) (N := 6) X Z ((hk_33 o_32 rfl)).i (((hk_33 o_32 rfl)).c _) rfl inlX2 tyX2 tyX2_ok nmX2 1 (by decide) wd_6_19 rfl rfl rfl (by show 1 < 6; decide) ((((hk_33 o_32 rfl)).c _).trans (congrArg (fun z => Sum.inr (2, z)) (sp_Sg_1 _ _ _))) dX3_endTrack_32 (fun H locs Z => ?_)
      rw [e_G_37] at Z
      refine lv_iconst (v := (0 : Int32)) hx hb dX3_endTrack_35 (by decide) ?_
      refine lv_istore_n (lv' := [(3, .int ((0 : Int32))), (2, .ref (mad E (o_32))), (1, .ref (mad E (o_2))), (0, .ref (mad E (c)))]) hx hb dX3_endTrack_36 rfl hl (by decide) rfl (fun ls hl => ?_)
      refine lv_iconst (v := (0 : Int32)) hx hb dX3_endTrack_37 (by decide) ?_
      refine lv_istore (lv' := [(4, .int ((0 : Int32))), (3, .int ((0 : Int32))), (2, .ref (mad E (o_32))), (1, .ref (mad E (o_2))), (0, .ref (mad E (c)))]) hx hb dX3_endTrack_38 hl (by decide) rfl (fun ls hl => ?_)
      obtain ⟨q_38, h_q_38, hT⟩ := mx_bind hT
      refine k3_endTrack_40 X hR hJ hc  _ _ _ _ _ _ _ _ h_q_38 Z (lv_sub (l' := [(0, .ref (mad E (c))), (3, .int ((0 : Int32))), (4, .int ((0 : Int32)))]) hl [4, 1, 0] rfl) (fun H locs ls Z hl => ?_)
      · refine lv_bipush (v := (11 : Int32)) hx hb dX3_endTrack_87 (by decide) ?_
        refine lv_istore (lv' := [(4, .int ((11 : Int32))), (0, .ref (mad E (c))), (3, .int (q_38.1))]) hx hb dX3_endTrack_89 hl (by decide) rfl (fun ls hl => ?_)
        obtain ⟨q_39, h_q_39, hT⟩ := mx_bind hT
        refine k3_endTrack_91 X hR hJ hc  _ _ _ _ _ _ _ _ h_q_39 Z (lv_sub (l' := [(0, .ref (mad E (c))), (3, .int (q_38.1)), (4, .int ((11 : Int32)))]) hl [1, 2, 0] rfl) (fun H locs ls Z hl => ?_)
        · cases hT
          exact W.vret hx hb hr (fun t ht hW => mx_end Z t ht _) Z.2.2.2 dX3_endTrack_136
