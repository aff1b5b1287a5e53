/-! PeatRailway$Segment.layDown -/
def x2_layDown (c : Nat) (x1 : Int32) (G : mM) : Option mM :=
  mNm (up2 G c 0 x1) fun G_1 =>
  mNm (up2 G_1 c 1 ((1 : Int32))) fun G_2 =>
  mNm (up2 G_2 c 2 ((0 : Int32))) fun G_3 =>
  some (G_3)
theorem hd2_layDown : yX2_layDown.cls = RX2 ∧ yX2_layDown.cls ≠ "java/lang/invoke/MethodHandle" ∧ yX2_layDown.cls ≠ "java/lang/invoke/VarHandle" ∧ (parseMethodDescriptor yX2_layDown.desc).map (fun d => d.parameters.length) = some 1 := by decide +kernel
set_option maxHeartbeats 4000000 in
set_option maxRecDepth 100000 in
theorem c2_layDown (l : Launch) (E : mE) (hJ : mJ E) {c : Nat} (hc : mSg E c) (x1 : Int32) (G : mM) (q : mM) (hT : x2_layDown c x1 G = some q) : mMet l E yX2_layDown cX2_layDown 2 none 0 0 [.ref (mad E (c)), .int (x1)] G (none) q := by
  refine Met.ofW (cc := cX2_layDown) (maxL := 2) (ret := none) (by decide) rfl ?_
  intro p e s m args below meth cd s₁ B hml hv
  obtain ⟨rfl, hP, hK, hS⟩ := hv
  have X := mx_entry (own := RX2) B hml hK hJ hS rfl
  have hx := X.1
  have hb := X.2.1
  have hown := X.2.2.2.1
  have hts := X.2.2.2.2.1
  have hr := B.returns
  have hlocks := B.notSynchronized
  have hR : 0 ≤ (headSpec (mWs yX2_layDown cX2_layDown 2 none) ({ frames := 0, cells := 0, slots := 0, locals := 0 })).room.frames ∧ 0 ≤ (headSpec (mWs yX2_layDown cX2_layDown 2 none) ({ frames := 0, cells := 0, slots := 0, locals := 0 })).room.locals := ⟨Nat.le_refl _, Nat.le_refl _⟩
  have Z : mZ E s.heap s.heap [] G := ⟨hP, va_S.rf⟩
  have hl := lv_entry ([.ref (mad E (c)), .int (x1)]) (n := 2) (Nat.le_of_ble_eq_true rfl)
  rw [lg_entry_eq]
  generalize (lg_sl ([.ref (mad E (c)), .int (x1)]) ++ List.replicate (2 - (lg_sl ([.ref (mad E (c)), .int (x1)])).length) Slot.unset).toArray = ls at hl ⊢
  have hl : lv_has ls 2 [(0, .ref (mad E (c))), (1, .int (x1))] := hl
  unfold x2_layDown at hT
  refine lv_aload_n hx hb dX2_layDown_0 rfl (lv_at hl 0 rfl) ?_
  refine lv_iload_n hx hb dX2_layDown_1 rfl (lv_at hl 1 rfl) ?_
  obtain ⟨G_1, e_G_1, hT⟩ := mx_nm hT
  refine mx_put (ci := 2) (C := RX2) (T := TX2) (N := 6) X Z hc.i (hc.c _) rfl inlX2 tyX2 tyX2_ok nmX2 0 (by decide) wd_6_14 rfl rfl rfl (by show 0 < 6; decide) ((hc.c _).trans (congrArg (fun z => Sum.inr (2, z)) (sp_Sg_0 _ _ _))) dX2_layDown_2 (fun H locs Z => ?_)
  rw [e_G_1] at Z
  refine lv_aload_n hx hb dX2_layDown_5 rfl (lv_at hl 0 rfl) ?_
  refine lv_iconst (v := (1 : Int32)) hx hb dX2_layDown_6 (by decide) ?_
  obtain ⟨G_2, e_G_2, hT⟩ := mx_nm hT
  refine mx_put (ci := 2) (C := RX2) (T := TX2) (N := 6) X Z hc.i (hc.c _) rfl inlX2 tyX2 tyX2_ok nmX2 1 (by decide) wd_6_15 rfl rfl rfl (by show 1 < 6; decide) ((hc.c _).trans (congrArg (fun z => Sum.inr (2, z)) (sp_Sg_1 _ _ _))) dX2_layDown_7 (fun H locs Z => ?_)
  rw [e_G_2] at Z
  refine lv_aload_n hx hb dX2_layDown_10 rfl (lv_at hl 0 rfl) ?_
  refine lv_iconst (v := (0 : Int32)) hx hb dX2_layDown_11 (by decide) ?_
  obtain ⟨G_3, e_G_3, hT⟩ := mx_nm hT
  refine mx_put (ci := 2) (C := RX2) (T := TX2) (N := 6) X Z hc.i (hc.c _) rfl inlX2 tyX2 tyX2_ok nmX2 2 (by decide) wd_6_16 rfl rfl rfl (by show 2 < 6; decide) ((hc.c _).trans (congrArg (fun z => Sum.inr (2, z)) (sp_Sg_2 _ _ _))) dX2_layDown_12 (fun H locs Z => ?_)
  rw [e_G_3] at Z
  cases hT
  exact W.vret hx hb hr (fun t ht hW => mx_end Z t ht _) Z.2.2.2 dX2_layDown_15
/-! PeatRailway$Segment.copyFrom -/
def x2_copyFrom (c : Nat) (d1 : Nat) (G : mM) : Option mM :=
  mNm (up2 G c 0 (G d1 0)) fun G_1 =>
  mNm (up2 G_1 c 1 (G_1 d1 1)) fun G_2 =>
  mNm (up2 G_2 c 2 (G_2 d1 2)) fun G_3 =>
  mNm (up2 G_3 c 3 (G_3 d1 3)) fun G_4 =>
  mNm (up2 G_4 c 4 (G_4 d1 4)) fun G_5 =>
  some (G_5)
theorem hd2_copyFrom : yX2_copyFrom.cls = RX2 ∧ yX2_copyFrom.cls ≠ "java/lang/invoke/MethodHandle" ∧ yX2_copyFrom.cls ≠ "java/lang/invoke/VarHandle" ∧ (parseMethodDescriptor yX2_copyFrom.desc).map (fun d => d.parameters.length) = some 1 := by decide +kernel
set_option maxHeartbeats 4000000 in
set_option maxRecDepth 100000 in
theorem c2_copyFrom (l : Launch) (E : mE) (hJ : mJ E) {c : Nat} {d1 : Nat} (hc : mSg E c) (hd1 : mSg E d1) (G : mM) (q : mM) (hT : x2_copyFrom c d1 G = some q) : mMet l E yX2_copyFrom cX2_copyFrom 2 none 0 0 [.ref (mad E (c)), .ref (mad E (d1))] G (none) q := by
  refine Met.ofW (cc := cX2_copyFrom) (maxL := 2) (ret := none) (by decide) rfl ?_
  intro p e s m args below meth cd s₁ B hml hv
  obtain ⟨rfl, hP, hK, hS⟩ := hv
  have X := mx_entry (own := RX2) B hml hK hJ hS rfl
  have hx := X.1
  have hb := X.2.1
  have hown := X.2.2.2.1
  have hts := X.2.2.2.2.1
  have hr := B.returns
  have hlocks := B.notSynchronized
  have hR : 0 ≤ (headSpec (mWs yX2_copyFrom cX2_copyFrom 2 none) ({ frames := 0, cells := 0, slots := 0, locals := 0 })).room.frames ∧ 0 ≤ (headSpec (mWs yX2_copyFrom cX2_copyFrom 2 none) ({ frames := 0, cells := 0, slots := 0, locals := 0 })).room.locals := ⟨Nat.le_refl _, Nat.le_refl _⟩
  have Z : mZ E s.heap s.heap [] G := ⟨hP, va_S.rf⟩
  have hl := lv_entry ([.ref (mad E (c)), .ref (mad E (d1))]) (n := 2) (Nat.le_of_ble_eq_true rfl)
  rw [lg_entry_eq]
  generalize (lg_sl ([.ref (mad E (c)), .ref (mad E (d1))]) ++ List.replicate (2 - (lg_sl ([.ref (mad E (c)), .ref (mad E (d1))])).length) Slot.unset).toArray = ls at hl ⊢
  have hl : lv_has ls 2 [(0, .ref (mad E (c))), (1, .ref (mad E (d1)))] := hl
  unfold x2_copyFrom at hT
  refine lv_aload_n hx hb dX2_copyFrom_0 rfl (lv_at hl 0 rfl) ?_
  refine lv_aload_n hx hb dX2_copyFrom_1 rfl (lv_at hl 1 rfl) ?_
  refine mx_get (v := .int (G d1 0)) (ci := 2) (C := RX2) (T := TX2) (N := 6) X Z hd1.i (hd1.c _) rfl inlX2 0 (by decide) wd_6_14 rfl dX2_copyFrom_2 ?_
  obtain ⟨G_1, e_G_1, hT⟩ := mx_nm hT
  refine mx_put (ci := 2) (C := RX2) (T := TX2) (N := 6) X Z hc.i (hc.c _) rfl inlX2 tyX2 tyX2_ok nmX2 0 (by decide) wd_6_14 rfl rfl rfl (by show 0 < 6; decide) ((hc.c _).trans (congrArg (fun z => Sum.inr (2, z)) (sp_Sg_0 _ _ _))) dX2_copyFrom_5 (fun H locs Z => ?_)
  rw [e_G_1] at Z
  refine lv_aload_n hx hb dX2_copyFrom_8 rfl (lv_at hl 0 rfl) ?_
  refine lv_aload_n hx hb dX2_copyFrom_9 rfl (lv_at hl 1 rfl) ?_
  refine mx_get (v := .int (G_1 d1 1)) (ci := 2) (C := RX2) (T := TX2) (N := 6) X Z hd1.i (hd1.c _) rfl inlX2 1 (by decide) wd_6_15 rfl dX2_copyFrom_10 ?_
  obtain ⟨G_2, e_G_2, hT⟩ := mx_nm hT
  refine mx_put (ci := 2) (C := RX2) (T := TX2) (N := 6) X Z hc.i (hc.c _) rfl inlX2 tyX2 tyX2_ok nmX2 1 (by decide) wd_6_15 rfl rfl rfl (by show 1 < 6; decide) ((hc.c _).trans (congrArg (fun z => Sum.inr (2, z)) (sp_Sg_1 _ _ _))) dX2_copyFrom_13 (fun H locs Z => ?_)
  rw [e_G_2] at Z
  refine lv_aload_n hx hb dX2_copyFrom_16 rfl (lv_at hl 0 rfl) ?_
  refine lv_aload_n hx hb dX2_copyFrom_17 rfl (lv_at hl 1 rfl) ?_
  refine mx_get (v := .int (G_2 d1 2)) (ci := 2) (C := RX2) (T := TX2) (N := 6) X Z hd1.i (hd1.c _) rfl inlX2 2 (by decide) wd_6_16 rfl dX2_copyFrom_18 ?_
  obtain ⟨G_3, e_G_3, hT⟩ := mx_nm hT
  refine mx_put (ci := 2) (C := RX2) (T := TX2) (N := 6) X Z hc.i (hc.c _) rfl inlX2 tyX2 tyX2_ok nmX2 2 (by decide) wd_6_16 rfl rfl rfl (by show 2 < 6; decide) ((hc.c _).trans (congrArg (fun z => Sum.inr (2, z)) (sp_Sg_2 _ _ _))) dX2_copyFrom_21 (fun H locs Z => ?_)
  rw [e_G_3] at Z
  refine lv_aload_n hx hb dX2_copyFrom_24 rfl (lv_at hl 0 rfl) ?_
  refine lv_aload_n hx hb dX2_copyFrom_25 rfl (lv_at hl 1 rfl) ?_
  refine mx_get (v := .int (G_3 d1 3)) (ci := 2) (C := RX2) (T := TX2) (N := 6) X Z hd1.i (hd1.c _) rfl inlX2 3 (by decide) wd_11_14 rfl dX2_copyFrom_26 ?_
  obtain ⟨G_4, e_G_4, hT⟩ := mx_nm hT
  refine mx_put (ci := 2) (C := RX2) (T := TX2) (N := 6) X Z hc.i (hc.c _) rfl inlX2 tyX2 tyX2_ok nmX2 3 (by decide) wd_11_14 rfl rfl rfl (by show 3 < 6; decide) ((hc.c _).trans (congrArg (fun z => Sum.inr (2, z)) (sp_Sg_3 _ _ _))) dX2_copyFrom_29 (fun H locs Z => ?_)
  rw [e_G_4] at Z
  refine lv_aload_n hx hb dX2_copyFrom_32 rfl (lv_at hl 0 rfl) ?_
  refine lv_aload_n hx hb dX2_copyFrom_33 rfl (lv_at hl 1 rfl) ?_
  refine mx_get (v := .int (G_4 d1 4)) (ci := 2) (C := RX2) (T := TX2) (N := 6) X Z hd1.i (hd1.c _) rfl inlX2 4 (by decide) wd_11_15 rfl dX2_copyFrom_34 ?_
  obtain ⟨G_5, e_G_5, hT⟩ := mx_nm hT
  refine mx_put (ci := 2) (C := RX2) (T := TX2) (N := 6) X Z hc.i (hc.c _) rfl inlX2 tyX2 tyX2_ok nmX2 4 (by decide) wd_11_15 rfl rfl rfl (by show 4 < 6; decide) ((hc.c _).trans (congrArg (fun z => Sum.inr (2, z)) (sp_Sg_4 _ _ _))) dX2_copyFrom_37 (fun H locs Z => ?_)
  rw [e_G_5] at Z
  cases hT
  exact W.vret hx hb hr (fun t ht hW => mx_end Z t ht _) Z.2.2.2 dX2_copyFrom_40
/-! PeatRailway$Segment.isPassingPlace -/
def x2_isPassingPlace (c : Nat) (G : mM) : Option Int32 :=
  if (G c 1) < ((2 : Int32)) then
    some ((0 : Int32))
  else
    some ((1 : Int32))
theorem hd2_isPassingPlace : yX2_isPassingPlace.cls = RX2 ∧ yX2_isPassingPlace.cls ≠ "java/lang/invoke/MethodHandle" ∧ yX2_isPassingPlace.cls ≠ "java/lang/invoke/VarHandle" ∧ (parseMethodDescriptor yX2_isPassingPlace.desc).map (fun d => d.parameters.length) = some 0 := by decide +kernel
set_option maxHeartbeats 4000000 in
set_option maxRecDepth 100000 in
theorem c2_isPassingPlace (l : Launch) (E : mE) (hJ : mJ E) {c : Nat} (hc : mSg E c) (G : mM) (q : Int32) (hT : x2_isPassingPlace c G = some q) : mMet l E yX2_isPassingPlace cX2_isPassingPlace 1 (some .boolean) 0 0 [.ref (mad E (c))] G (some (.int q)) G := by
  refine Met.ofW (cc := cX2_isPassingPlace) (maxL := 1) (ret := (some .boolean)) (by decide) rfl ?_
  intro p e s m args below meth cd s₁ B hml hv
  obtain ⟨rfl, hP, hK, hS⟩ := hv
  have X := mx_entry (own := RX2) B hml hK hJ hS rfl
  have hx := X.1
  have hb := X.2.1
  have hown := X.2.2.2.1
  have hts := X.2.2.2.2.1
  have hr := B.returns
  have hlocks := B.notSynchronized
  have hR : 0 ≤ (headSpec (mWs yX2_isPassingPlace cX2_isPassingPlace 1 (some .boolean)) ({ frames := 0, cells := 0, slots := 0, locals := 0 })).room.frames ∧ 0 ≤ (headSpec (mWs yX2_isPassingPlace cX2_isPassingPlace 1 (some .boolean)) ({ frames := 0, cells := 0, slots := 0, locals := 0 })).room.locals := ⟨Nat.le_refl _, Nat.le_refl _⟩
  have Z : mZ E s.heap s.heap [] G := ⟨hP, va_S.rf⟩
  have hl := lv_entry ([.ref (mad E (c))]) (n := 1) (Nat.le_of_ble_eq_true rfl)
  rw [lg_entry_eq]
  generalize (lg_sl ([.ref (mad E (c))]) ++ List.replicate (1 - (lg_sl ([.ref (mad E (c))])).length) Slot.unset).toArray = ls at hl ⊢
  have hl : lv_has ls 1 [(0, .ref (mad E (c)))] := hl
  unfold x2_isPassingPlace at hT
  refine lv_aload_n hx hb dX2_isPassingPlace_0 rfl (lv_at hl 0 rfl) ?_
  refine mx_get (v := .int (G c 1)) (ci := 2) (C := RX2) (T := TX2) (N := 6) X Z hc.i (hc.c _) rfl inlX2 1 (by decide) wd_6_15 rfl dX2_isPassingPlace_1 ?_
  refine lv_iconst (v := (2 : Int32)) hx hb dX2_isPassingPlace_4 (by decide) ?_
  refine lv_icmp_lt (tgt := 12) hx hb dX2_isPassingPlace_5 (by decide) (fun h_1 => ?_) (fun h_1 => ?_)
  · replace hT := mx_t hT h_1
    refine lv_iconst (v := (0 : Int32)) hx hb dX2_isPassingPlace_12 (by decide) ?_
    cases hT
    exact W.zret hx hb hr rfl (fun t ht hW => mx_end Z t ht _) Z.2.2.2 dX2_isPassingPlace_13
  · replace hT := mx_f hT h_1
    refine lv_iconst (v := (1 : Int32)) hx hb dX2_isPassingPlace_8 (by decide) ?_
    refine lv_goto (tgt := 13) hx hb dX2_isPassingPlace_9 (by decide) ?_
    cases hT
    exact W.zret hx hb hr rfl (fun t ht hW => mx_end Z t ht _) Z.2.2.2 dX2_isPassingPlace_13
/-! PeatRailway$Segment.ticksToRise -/
def x2_ticksToRise (c : Nat) (x1 : Int32) (x2 : Int32) (G : mM) : Option Int32 :=
  if (G c 2) ≤ x1 then
    some ((0 : Int32))
  else
    if ((1 : Int32)) ≤ x2 then
      mCk (¬ x2 = 0) <|
      some (((((G c 2) - x1) + x2) - ((1 : Int32))) / x2)
    else
      some ((0 : Int32))
theorem hd2_ticksToRise : yX2_ticksToRise.cls = RX2 ∧ yX2_ticksToRise.cls ≠ "java/lang/invoke/MethodHandle" ∧ yX2_ticksToRise.cls ≠ "java/lang/invoke/VarHandle" ∧ (parseMethodDescriptor yX2_ticksToRise.desc).map (fun d => d.parameters.length) = some 2 := by decide +kernel
set_option maxHeartbeats 4000000 in
set_option maxRecDepth 100000 in
theorem c2_ticksToRise (l : Launch) (E : mE) (hJ : mJ E) {c : Nat} (hc : mSg E c) (x1 : Int32) (x2 : Int32) (G : mM) (q : Int32) (hT : x2_ticksToRise c x1 x2 G = some q) : mMet l E yX2_ticksToRise cX2_ticksToRise 3 (some .int) 0 0 [.ref (mad E (c)), .int (x1), .int (x2)] G (some (.int q)) G := by
  refine Met.ofW (cc := cX2_ticksToRise) (maxL := 3) (ret := (some .int)) (by decide) rfl ?_
  intro p e s m args below meth cd s₁ B hml hv
  obtain ⟨rfl, hP, hK, hS⟩ := hv
  have X := mx_entry (own := RX2) B hml hK hJ hS rfl
  have hx := X.1
  have hb := X.2.1
  have hown := X.2.2.2.1
  have hts := X.2.2.2.2.1
  have hr := B.returns
  have hlocks := B.notSynchronized
  have hR : 0 ≤ (headSpec (mWs yX2_ticksToRise cX2_ticksToRise 3 (some .int)) ({ frames := 0, cells := 0, slots := 0, locals := 0 })).room.frames ∧ 0 ≤ (headSpec (mWs yX2_ticksToRise cX2_ticksToRise 3 (some .int)) ({ frames := 0, cells := 0, slots := 0, locals := 0 })).room.locals := ⟨Nat.le_refl _, Nat.le_refl _⟩
  have Z : mZ E s.heap s.heap [] G := ⟨hP, va_S.rf⟩
  have hl := lv_entry ([.ref (mad E (c)), .int (x1), .int (x2)]) (n := 3) (Nat.le_of_ble_eq_true rfl)
  rw [lg_entry_eq]
  generalize (lg_sl ([.ref (mad E (c)), .int (x1), .int (x2)]) ++ List.replicate (3 - (lg_sl ([.ref (mad E (c)), .int (x1), .int (x2)])).length) Slot.unset).toArray = ls at hl ⊢
  have hl : lv_has ls 3 [(0, .ref (mad E (c))), (1, .int (x1)), (2, .int (x2))] := hl
  unfold x2_ticksToRise at hT
  refine lv_aload_n hx hb dX2_ticksToRise_0 rfl (lv_at hl 0 rfl) ?_
  refine mx_get (v := .int (G c 2)) (ci := 2) (C := RX2) (T := TX2) (N := 6) X Z hc.i (hc.c _) rfl inlX2 2 (by decide) wd_6_16 rfl dX2_ticksToRise_1 ?_
  refine lv_iload_n hx hb dX2_ticksToRise_4 rfl (lv_at hl 1 rfl) ?_
  refine lv_icmp_le (tgt := 13) hx hb dX2_ticksToRise_5 (by decide) (fun h_1 => ?_) (fun h_1 => ?_)
  · replace hT := mx_t hT h_1
    refine lv_iconst (v := (0 : Int32)) hx hb dX2_ticksToRise_13 (by decide) ?_
    cases hT
    exact W.iret hx hb hr (fun t ht hW => mx_end Z t ht _) Z.2.2.2 dX2_ticksToRise_14
  · replace hT := mx_f hT h_1
    refine lv_iload_n hx hb dX2_ticksToRise_8 rfl (lv_at hl 2 rfl) ?_
    refine lv_iconst (v := (1 : Int32)) hx hb dX2_ticksToRise_9 (by decide) ?_
    refine lv_icmp_ge (tgt := 15) hx hb dX2_ticksToRise_10 (by decide) (fun h_2 => ?_) (fun h_2 => ?_)
    · replace hT := mx_t hT h_2
      refine lv_aload_n hx hb dX2_ticksToRise_15 rfl (lv_at hl 0 rfl) ?_
      refine mx_get (v := .int (G c 2)) (ci := 2) (C := RX2) (T := TX2) (N := 6) X Z hc.i (hc.c _) rfl inlX2 2 (by decide) wd_6_16 rfl dX2_ticksToRise_16 ?_
      refine lv_iload_n hx hb dX2_ticksToRise_19 rfl (lv_at hl 1 rfl) ?_
      refine lv_isub hx hb dX2_ticksToRise_20 ?_
      refine lv_iload_n hx hb dX2_ticksToRise_21 rfl (lv_at hl 2 rfl) ?_
      refine lv_iadd hx hb dX2_ticksToRise_22 ?_
      refine lv_iconst (v := (1 : Int32)) hx hb dX2_ticksToRise_23 (by decide) ?_
      refine lv_isub hx hb dX2_ticksToRise_24 ?_
      refine lv_iload_n hx hb dX2_ticksToRise_25 rfl (lv_at hl 2 rfl) ?_
      obtain ⟨h_3, hT⟩ := mx_chk hT
      refine lv_idiv hx hb dX2_ticksToRise_26 h_3 ?_
      cases hT
      exact W.iret hx hb hr (fun t ht hW => mx_end Z t ht _) Z.2.2.2 dX2_ticksToRise_27
    · replace hT := mx_f hT h_2
      refine lv_iconst (v := (0 : Int32)) hx hb dX2_ticksToRise_13 (by decide) ?_
      cases hT
      exact W.iret hx hb hr (fun t ht hW => mx_end Z t ht _) Z.2.2.2 dX2_ticksToRise_14
/-! PeatRailway$Segment.settle -/
def x2_settle (c : Nat) (x1 : Int32) (G : mM) : Option mM :=
  if (G c 5) = 0 then
    mNm (if ((G c 2) - x1) < ((0 : Int32)) then ((0 : Int32)) else ((G c 2) - x1)) fun v_5 =>
    mNm (up2 G c 2 v_5) fun G_6 =>
    mNm (up2 G_6 c 5 ((0 : Int32))) fun G_7 =>
    some (G_7)
  else
    mNm (if ((999 : Int32)) < ((G c 2) + (((G c 5) * (G c 0)) / ((10 : Int32)))) then ((999 : Int32)) else ((G c 2) + (((G c 5) * (G c 0)) / ((10 : Int32))))) fun v_2 =>
    mNm (up2 G c 2 v_2) fun G_3 =>
    mNm (up2 G_3 c 5 ((0 : Int32))) fun G_4 =>
    some (G_4)
theorem hd2_settle : yX2_settle.cls = RX2 ∧ yX2_settle.cls ≠ "java/lang/invoke/MethodHandle" ∧ yX2_settle.cls ≠ "java/lang/invoke/VarHandle" ∧ (parseMethodDescriptor yX2_settle.desc).map (fun d => d.parameters.length) = some 1 := by decide +kernel
set_option maxHeartbeats 4000000 in
set_option maxRecDepth 100000 in
theorem c2_settle (l : Launch) (E : mE) (hJ : mJ E) {c : Nat} (hc : mSg E c) (x1 : Int32) (G : mM) (q : mM) (hT : x2_settle c x1 G = some q) : mMet l E yX2_settle cX2_settle 2 none 1 21 [.ref (mad E (c)), .int (x1)] G (none) q := by
  refine Met.ofW (cc := cX2_settle) (maxL := 2) (ret := none) (by decide) rfl ?_
  intro p e s m args below meth cd s₁ B hml hv
  obtain ⟨rfl, hP, hK, hS⟩ := hv
  have X := mx_entry (own := RX2) B hml hK hJ hS rfl
  have hx := X.1
  have hb := X.2.1
  have hown := X.2.2.2.1
  have hts := X.2.2.2.2.1
  have hr := B.returns
  have hlocks := B.notSynchronized
  have hR : 1 ≤ (headSpec (mWs yX2_settle cX2_settle 2 none) ({ frames := 1, cells := 0, slots := 0, locals := 21 })).room.frames ∧ 21 ≤ (headSpec (mWs yX2_settle cX2_settle 2 none) ({ frames := 1, cells := 0, slots := 0, locals := 21 })).room.locals := ⟨Nat.le_refl _, Nat.le_refl _⟩
  have Z : mZ E s.heap s.heap [] G := ⟨hP, va_S.rf⟩
  have hl := lv_entry ([.ref (mad E (c)), .int (x1)]) (n := 2) (Nat.le_of_ble_eq_true rfl)
  rw [lg_entry_eq]
  generalize (lg_sl ([.ref (mad E (c)), .int (x1)]) ++ List.replicate (2 - (lg_sl ([.ref (mad E (c)), .int (x1)])).length) Slot.unset).toArray = ls at hl ⊢
  have hl : lv_has ls 2 [(0, .ref (mad E (c))), (1, .int (x1))] := hl
  unfold x2_settle at hT
  refine lv_aload_n hx hb dX2_settle_0 rfl (lv_at hl 0 rfl) ?_
  refine mx_get (v := .int (G c 5)) (ci := 2) (C := RX2) (T := TX2) (N := 6) X Z hc.i (hc.c _) rfl inlX2 5 (by decide) wd_20_22 rfl dX2_settle_1 ?_
  refine lv_if_ne (tgt := 24) hx hb dX2_settle_4 (by decide) (fun h_1 => ?_) (fun h_1 => ?_)
  · replace hT := mx_f hT h_1
    refine lv_aload_n hx hb dX2_settle_24 rfl (lv_at hl 0 rfl) ?_
    refine lv_aload_n hx hb dX2_settle_25 rfl (lv_at hl 0 rfl) ?_
    refine mx_get (v := .int (G c 2)) (ci := 2) (C := RX2) (T := TX2) (N := 6) X Z hc.i (hc.c _) rfl inlX2 2 (by decide) wd_6_16 rfl dX2_settle_26 ?_
    refine lv_aload_n hx hb dX2_settle_29 rfl (lv_at hl 0 rfl) ?_
    refine mx_get (v := .int (G c 5)) (ci := 2) (C := RX2) (T := TX2) (N := 6) X Z hc.i (hc.c _) rfl inlX2 5 (by decide) wd_20_22 rfl dX2_settle_30 ?_
    refine lv_aload_n hx hb dX2_settle_33 rfl (lv_at hl 0 rfl) ?_
    refine mx_get (v := .int (G c 0)) (ci := 2) (C := RX2) (T := TX2) (N := 6) X Z hc.i (hc.c _) rfl inlX2 0 (by decide) wd_6_14 rfl dX2_settle_34 ?_
    refine lv_imul hx hb dX2_settle_37 ?_
    refine lv_bipush (v := (10 : Int32)) hx hb dX2_settle_38 (by decide) ?_
    refine lv_idiv hx hb dX2_settle_40 (by decide) ?_
    refine lv_iadd hx hb dX2_settle_41 ?_
    refine lv_sipush (v := (999 : Int32)) hx hb dX2_settle_42 (by decide) ?_
    refine mx_min X hl.1 wd_21_0 wd_21_1 wd_20_12 wd_21_2 (Nat.le_trans (by decide) hR.1) (Nat.le_trans (Nat.le_of_ble_eq_true rfl) hR.2) ⟨Nat.zero_le _, Nat.zero_le _⟩ dX2_settle_45 ?_
    obtain ⟨v_2, e_v_2, hT⟩ := mx_nm hT
    refine mx_tops (congrArg (fun z => (.int (z) :: [.ref (mad E (c))] : List Value)) e_v_2) ?_
    obtain ⟨G_3, e_G_3, hT⟩ := mx_nm hT
    refine mx_put (ci := 2) (C := RX2) (T := TX2) (N := 6) X Z hc.i (hc.c _) rfl inlX2 tyX2 tyX2_ok nmX2 2 (by decide) wd_6_16 rfl rfl rfl (by show 2 < 6; decide) ((hc.c _).trans (congrArg (fun z => Sum.inr (2, z)) (sp_Sg_2 _ _ _))) dX2_settle_48 (fun H locs Z => ?_)
    rw [e_G_3] at Z
    refine lv_aload_n hx hb dX2_settle_51 rfl (lv_at hl 0 rfl) ?_
    refine lv_iconst (v := (0 : Int32)) hx hb dX2_settle_52 (by decide) ?_
    obtain ⟨G_4, e_G_4, hT⟩ := mx_nm hT
    refine mx_put (ci := 2) (C := RX2) (T := TX2) (N := 6) X Z hc.i (hc.c _) rfl inlX2 tyX2 tyX2_ok nmX2 5 (by decide) wd_20_22 rfl rfl rfl (by show 5 < 6; decide) ((hc.c _).trans (congrArg (fun z => Sum.inr (2, z)) (sp_Sg_5 _ _ _))) dX2_settle_53 (fun H locs Z => ?_)
    rw [e_G_4] at Z
    cases hT
    exact W.vret hx hb hr (fun t ht hW => mx_end Z t ht _) Z.2.2.2 dX2_settle_56
  · replace hT := mx_t hT h_1
    refine lv_aload_n hx hb dX2_settle_7 rfl (lv_at hl 0 rfl) ?_
    refine lv_aload_n hx hb dX2_settle_8 rfl (lv_at hl 0 rfl) ?_
    refine mx_get (v := .int (G c 2)) (ci := 2) (C := RX2) (T := TX2) (N := 6) X Z hc.i (hc.c _) rfl inlX2 2 (by decide) wd_6_16 rfl dX2_settle_9 ?_
    refine lv_iload_n hx hb dX2_settle_12 rfl (lv_at hl 1 rfl) ?_
    refine lv_isub hx hb dX2_settle_13 ?_
    refine lv_iconst (v := (0 : Int32)) hx hb dX2_settle_14 (by decide) ?_
    refine mx_max X hl.1 wd_20_23 wd_20_11 wd_20_12 wd_20_13 (Nat.le_trans (by decide) hR.1) (Nat.le_trans (Nat.le_of_ble_eq_true rfl) hR.2) ⟨Nat.zero_le _, Nat.zero_le _⟩ dX2_settle_15 ?_
    obtain ⟨v_5, e_v_5, hT⟩ := mx_nm hT
    refine mx_tops (congrArg (fun z => (.int (z) :: [.ref (mad E (c))] : List Value)) e_v_5) ?_
    obtain ⟨G_6, e_G_6, hT⟩ := mx_nm hT
    refine mx_put (ci := 2) (C := RX2) (T := TX2) (N := 6) X Z hc.i (hc.c _) rfl inlX2 tyX2 tyX2_ok nmX2 2 (by decide) wd_6_16 rfl rfl rfl (by show 2 < 6; decide) ((hc.c _).trans (congrArg (fun z => Sum.inr (2, z)) (sp_Sg_2 _ _ _))) dX2_settle_18 (fun H locs Z => ?_)
    rw [e_G_6] at Z
    refine lv_goto (tgt := 51) hx hb dX2_settle_21 (by decide) ?_
    refine lv_aload_n hx hb dX2_settle_51 rfl (lv_at hl 0 rfl) ?_
    refine lv_iconst (v := (0 : Int32)) hx hb dX2_settle_52 (by decide) ?_
    obtain ⟨G_7, e_G_7, hT⟩ := mx_nm hT
    refine mx_put (ci := 2) (C := RX2) (T := TX2) (N := 6) X Z hc.i (hc.c _) rfl inlX2 tyX2 tyX2_ok nmX2 5 (by decide) wd_20_22 rfl rfl rfl (by show 5 < 6; decide) ((hc.c _).trans (congrArg (fun z => Sum.inr (2, z)) (sp_Sg_5 _ _ _))) dX2_settle_53 (fun H locs Z => ?_)
    rw [e_G_7] at Z
    cases hT
    exact W.vret hx hb hr (fun t ht hW => mx_end Z t ht _) Z.2.2.2 dX2_settle_56
/-! PeatRailway$Train.start -/
def x4_start (c : Nat) (x1 : Int32) (x2 : Int32) (G : mM) : Option mM :=
  mNm (up2 G c 0 x1) fun G_1 =>
  mNm (up2 G_1 c 1 x2) fun G_2 =>
  mNm (up2 G_2 c 2 ((0 : Int32))) fun G_3 =>
  mNm (up2 G_3 c 3 ((0 : Int32))) fun G_4 =>
  mNm (up2 G_4 c 4 ((0 : Int32))) fun G_5 =>
  mNm (up2 G_5 c 5 ((0 : Int32))) fun G_6 =>
  mNm (up2 G_6 c 6 ((0 : Int32))) fun G_7 =>
  mNm (up2 G_7 c 7 ((0 : Int32))) fun G_8 =>
  mNm (up2 G_8 c 8 ((0 : Int32))) fun G_9 =>
  some (G_9)
theorem hd4_start : yX4_start.cls = RX4 ∧ yX4_start.cls ≠ "java/lang/invoke/MethodHandle" ∧ yX4_start.cls ≠ "java/lang/invoke/VarHandle" ∧ (parseMethodDescriptor yX4_start.desc).map (fun d => d.parameters.length) = some 2 := by decide +kernel
set_option maxHeartbeats 4000000 in
set_option maxRecDepth 100000 in
theorem c4_start (l : Launch) (E : mE) (hJ : mJ E) {c : Nat} (hc : mTr E c) (x1 : Int32) (x2 : Int32) (G : mM) (q : mM) (hT : x4_start c x1 x2 G = some q) : mMet l E yX4_start cX4_start 3 none 0 0 [.ref (mad E (c)), .int (x1), .int (x2)] G (none) q := by
  refine Met.ofW (cc := cX4_start) (maxL := 3) (ret := none) (by decide) rfl ?_
  intro p e s m args below meth cd s₁ B hml hv
  obtain ⟨rfl, hP, hK, hS⟩ := hv
  have X := mx_entry (own := RX4) B hml hK hJ hS rfl
  have hx := X.1
  have hb := X.2.1
  have hown := X.2.2.2.1
  have hts := X.2.2.2.2.1
  have hr := B.returns
  have hlocks := B.notSynchronized
  have hR : 0 ≤ (headSpec (mWs yX4_start cX4_start 3 none) ({ frames := 0, cells := 0, slots := 0, locals := 0 })).room.frames ∧ 0 ≤ (headSpec (mWs yX4_start cX4_start 3 none) ({ frames := 0, cells := 0, slots := 0, locals := 0 })).room.locals := ⟨Nat.le_refl _, Nat.le_refl _⟩
  have Z : mZ E s.heap s.heap [] G := ⟨hP, va_S.rf⟩
  have hl := lv_entry ([.ref (mad E (c)), .int (x1), .int (x2)]) (n := 3) (Nat.le_of_ble_eq_true rfl)
  rw [lg_entry_eq]
  generalize (lg_sl ([.ref (mad E (c)), .int (x1), .int (x2)]) ++ List.replicate (3 - (lg_sl ([.ref (mad E (c)), .int (x1), .int (x2)])).length) Slot.unset).toArray = ls at hl ⊢
  have hl : lv_has ls 3 [(0, .ref (mad E (c))), (1, .int (x1)), (2, .int (x2))] := hl
  unfold x4_start at hT
  refine lv_aload_n hx hb dX4_start_0 rfl (lv_at hl 0 rfl) ?_
  refine lv_iload_n hx hb dX4_start_1 rfl (lv_at hl 1 rfl) ?_
  obtain ⟨G_1, e_G_1, hT⟩ := mx_nm hT
  refine mx_put (ci := 4) (C := RX4) (T := TX4) (N := 10) X Z hc.i (hc.c _) rfl inlX4 tyX4 tyX4_ok nmX4 0 (by decide) wd_11_20 rfl rfl rfl (by show 0 < 10; decide) ((hc.c _).trans (congrArg (fun z => Sum.inr (4, z)) (sp_Tr_0 _ _ _))) dX4_start_2 (fun H locs Z => ?_)
  rw [e_G_1] at Z
  refine lv_aload_n hx hb dX4_start_5 rfl (lv_at hl 0 rfl) ?_
  refine lv_iload_n hx hb dX4_start_6 rfl (lv_at hl 2 rfl) ?_
  obtain ⟨G_2, e_G_2, hT⟩ := mx_nm hT
  refine mx_put (ci := 4) (C := RX4) (T := TX4) (N := 10) X Z hc.i (hc.c _) rfl inlX4 tyX4 tyX4_ok nmX4 1 (by decide) wd_11_21 rfl rfl rfl (by show 1 < 10; decide) ((hc.c _).trans (congrArg (fun z => Sum.inr (4, z)) (sp_Tr_1 _ _ _))) dX4_start_7 (fun H locs Z => ?_)
  rw [e_G_2] at Z
  refine lv_aload_n hx hb dX4_start_10 rfl (lv_at hl 0 rfl) ?_
  refine lv_iconst (v := (0 : Int32)) hx hb dX4_start_11 (by decide) ?_
  obtain ⟨G_3, e_G_3, hT⟩ := mx_nm hT
  refine mx_put (ci := 4) (C := RX4) (T := TX4) (N := 10) X Z hc.i (hc.c _) rfl inlX4 tyX4 tyX4_ok nmX4 2 (by decide) wd_11_22 rfl rfl rfl (by show 2 < 10; decide) ((hc.c _).trans (congrArg (fun z => Sum.inr (4, z)) (sp_Tr_2 _ _ _))) dX4_start_12 (fun H locs Z => ?_)
  rw [e_G_3] at Z
  refine lv_aload_n hx hb dX4_start_15 rfl (lv_at hl 0 rfl) ?_
  refine lv_iconst (v := (0 : Int32)) hx hb dX4_start_16 (by decide) ?_
  obtain ⟨G_4, e_G_4, hT⟩ := mx_nm hT
  refine mx_put (ci := 4) (C := RX4) (T := TX4) (N := 10) X Z hc.i (hc.c _) rfl inlX4 tyX4 tyX4_ok nmX4 3 (by decide) wd_11_23 rfl rfl rfl (by show 3 < 10; decide) ((hc.c _).trans (congrArg (fun z => Sum.inr (4, z)) (sp_Tr_3 _ _ _))) dX4_start_17 (fun H locs Z => ?_)
  rw [e_G_4] at Z
  refine lv_aload_n hx hb dX4_start_20 rfl (lv_at hl 0 rfl) ?_
  refine lv_iconst (v := (0 : Int32)) hx hb dX4_start_21 (by decide) ?_
  obtain ⟨G_5, e_G_5, hT⟩ := mx_nm hT
  refine mx_put (ci := 4) (C := RX4) (T := TX4) (N := 10) X Z hc.i (hc.c _) rfl inlX4 tyX4 tyX4_ok nmX4 4 (by decide) wd_12_0 rfl rfl rfl (by show 4 < 10; decide) ((hc.c _).trans (congrArg (fun z => Sum.inr (4, z)) (sp_Tr_4 _ _ _))) dX4_start_22 (fun H locs Z => ?_)
  rw [e_G_5] at Z
  refine lv_aload_n hx hb dX4_start_25 rfl (lv_at hl 0 rfl) ?_
  refine lv_iconst (v := (0 : Int32)) hx hb dX4_start_26 (by decide) ?_
  obtain ⟨G_6, e_G_6, hT⟩ := mx_nm hT
  refine mx_put (ci := 4) (C := RX4) (T := TX4) (N := 10) X Z hc.i (hc.c _) rfl inlX4 tyX4 tyX4_ok nmX4 5 (by decide) wd_12_1 rfl rfl rfl (by show 5 < 10; decide) ((hc.c _).trans (congrArg (fun z => Sum.inr (4, z)) (sp_Tr_5 _ _ _))) dX4_start_27 (fun H locs Z => ?_)
  rw [e_G_6] at Z
  refine lv_aload_n hx hb dX4_start_30 rfl (lv_at hl 0 rfl) ?_
  refine lv_iconst (v := (0 : Int32)) hx hb dX4_start_31 (by decide) ?_
  obtain ⟨G_7, e_G_7, hT⟩ := mx_nm hT
  refine mx_put (ci := 4) (C := RX4) (T := TX4) (N := 10) X Z hc.i (hc.c _) rfl inlX4 tyX4 tyX4_ok nmX4 6 (by decide) wd_12_2 rfl rfl rfl (by show 6 < 10; decide) ((hc.c _).trans (congrArg (fun z => Sum.inr (4, z)) (sp_Tr_6 _ _ _))) dX4_start_32 (fun H locs Z => ?_)
  rw [e_G_7] at Z
  refine lv_aload_n hx hb dX4_start_35 rfl (lv_at hl 0 rfl) ?_
  refine lv_iconst (v := (0 : Int32)) hx hb dX4_start_36 (by decide) ?_
  obtain ⟨G_8, e_G_8, hT⟩ := mx_nm hT
  refine mx_put (ci := 4) (C := RX4) (T := TX4) (N := 10) X Z hc.i (hc.c _) rfl inlX4 tyX4 tyX4_ok nmX4 7 (by decide) wd_12_3 rfl rfl rfl (by show 7 < 10; decide) ((hc.c _).trans (congrArg (fun z => Sum.inr (4, z)) (sp_Tr_7 _ _ _))) dX4_start_37 (fun H locs Z => ?_)
  rw [e_G_8] at Z
  refine lv_aload_n hx hb dX4_start_40 rfl (lv_at hl 0 rfl) ?_
  refine lv_iconst (v := (0 : Int32)) hx hb dX4_start_41 (by decide) ?_
  obtain ⟨G_9, e_G_9, hT⟩ := mx_nm hT
  refine mx_put (ci := 4) (C := RX4) (T := TX4) (N := 10) X Z hc.i (hc.c _) rfl inlX4 tyX4 tyX4_ok nmX4 8 (by decide) wd_12_4 rfl rfl rfl (by show 8 < 10; decide) ((hc.c _).trans (congrArg (fun z => Sum.inr (4, z)) (sp_Tr_8 _ _ _))) dX4_start_42 (fun H locs Z => ?_)
  rw [e_G_9] at Z
  cases hT
  exact W.vret hx hb hr (fun t ht hW => mx_end Z t ht _) Z.2.2.2 dX4_start_45
/-! PeatRailway$Train.copyFrom -/
def x4_copyFrom (c : Nat) (d1 : Nat) (G : mM) : Option mM :=
  mNm (up2 G c 0 (G d1 0)) fun G_1 =>
  mNm (up2 G_1 c 1 (G_1 d1 1)) fun G_2 =>
  mNm (up2 G_2 c 2 (G_2 d1 2)) fun G_3 =>
  mNm (up2 G_3 c 3 (G_3 d1 3)) fun G_4 =>
  mCk (mBl (G_4 d1 4)) <|
  mNm (up2 G_4 c 4 (G_4 d1 4)) fun G_6 =>
  mNm (up2 G_6 c 5 (G_6 d1 5)) fun G_7 =>
  mNm (up2 G_7 c 6 (G_7 d1 6)) fun G_8 =>
  mNm (up2 G_8 c 7 (G_8 d1 7)) fun G_9 =>
  mNm (up2 G_9 c 8 (G_9 d1 8)) fun G_10 =>
  some (G_10)
theorem hd4_copyFrom : yX4_copyFrom.cls = RX4 ∧ yX4_copyFrom.cls ≠ "java/lang/invoke/MethodHandle" ∧ yX4_copyFrom.cls ≠ "java/lang/invoke/VarHandle" ∧ (parseMethodDescriptor yX4_copyFrom.desc).map (fun d => d.parameters.length) = some 1 := by decide +kernel
set_option maxHeartbeats 4000000 in
set_option maxRecDepth 100000 in
theorem c4_copyFrom (l : Launch) (E : mE) (hJ : mJ E) {c : Nat} {d1 : Nat} (hc : mTr E c) (hd1 : mTr E d1) (G : mM) (q : mM) (hT : x4_copyFrom c d1 G = some q) : mMet l E yX4_copyFrom cX4_copyFrom 2 none 0 0 [.ref (mad E (c)), .ref (mad E (d1))] G (none) q := by
  refine Met.ofW (cc := cX4_copyFrom) (maxL := 2) (ret := none) (by decide) rfl ?_
  intro p e s m args below meth cd s₁ B hml hv
  obtain ⟨rfl, hP, hK, hS⟩ := hv
  have X := mx_entry (own := RX4) B hml hK hJ hS rfl
  have hx := X.1
  have hb := X.2.1
  have hown := X.2.2.2.1
  have hts := X.2.2.2.2.1
  have hr := B.returns
  have hlocks := B.notSynchronized
  have hR : 0 ≤ (headSpec (mWs yX4_copyFrom cX4_copyFrom 2 none) ({ frames := 0, cells := 0, slots := 0, locals := 0 })).room.frames ∧ 0 ≤ (headSpec (mWs yX4_copyFrom cX4_copyFrom 2 none) ({ frames := 0, cells := 0, slots := 0, locals := 0 })).room.locals := ⟨Nat.le_refl _, Nat.le_refl _⟩
  have Z : mZ E s.heap s.heap [] G := ⟨hP, va_S.rf⟩
  have hl := lv_entry ([.ref (mad E (c)), .ref (mad E (d1))]) (n := 2) (Nat.le_of_ble_eq_true rfl)
  rw [lg_entry_eq]
  generalize (lg_sl ([.ref (mad E (c)), .ref (mad E (d1))]) ++ List.replicate (2 - (lg_sl ([.ref (mad E (c)), .ref (mad E (d1))])).length) Slot.unset).toArray = ls at hl ⊢
  have hl : lv_has ls 2 [(0, .ref (mad E (c))), (1, .ref (mad E (d1)))] := hl
  unfold x4_copyFrom at hT
  refine lv_aload_n hx hb dX4_copyFrom_0 rfl (lv_at hl 0 rfl) ?_
  refine lv_aload_n hx hb dX4_copyFrom_1 rfl (lv_at hl 1 rfl) ?_
  refine mx_get (v := .int (G d1 0)) (ci := 4) (C := RX4) (T := TX4) (N := 10) X Z hd1.i (hd1.c _) rfl inlX4 0 (by decide) wd_11_20 rfl dX4_copyFrom_2 ?_
  obtain ⟨G_1, e_G_1, hT⟩ := mx_nm hT
  refine mx_put (ci := 4) (C := RX4) (T := TX4) (N := 10) X Z hc.i (hc.c _) rfl inlX4 tyX4 tyX4_ok nmX4 0 (by decide) wd_11_20 rfl rfl rfl (by show 0 < 10; decide) ((hc.c _).trans (congrArg (fun z => Sum.inr (4, z)) (sp_Tr_0 _ _ _))) dX4_copyFrom_5 (fun H locs Z => ?_)
  rw [e_G_1] at Z
  refine lv_aload_n hx hb dX4_copyFrom_8 rfl (lv_at hl 0 rfl) ?_
  refine lv_aload_n hx hb dX4_copyFrom_9 rfl (lv_at hl 1 rfl) ?_
  refine mx_get (v := .int (G_1 d1 1)) (ci := 4) (C := RX4) (T := TX4) (N := 10) X Z hd1.i (hd1.c _) rfl inlX4 1 (by decide) wd_11_21 rfl dX4_copyFrom_10 ?_
  obtain ⟨G_2, e_G_2, hT⟩ := mx_nm hT
  refine mx_put (ci := 4) (C := RX4) (T := TX4) (N := 10) X Z hc.i (hc.c _) rfl inlX4 tyX4 tyX4_ok nmX4 1 (by decide) wd_11_21 rfl rfl rfl (by show 1 < 10; decide) ((hc.c _).trans (congrArg (fun z => Sum.inr (4, z)) (sp_Tr_1 _ _ _))) dX4_copyFrom_13 (fun H locs Z => ?_)
  rw [e_G_2] at Z
  refine lv_aload_n hx hb dX4_copyFrom_16 rfl (lv_at hl 0 rfl) ?_
  refine lv_aload_n hx hb dX4_copyFrom_17 rfl (lv_at hl 1 rfl) ?_
  refine mx_get (v := .int (G_2 d1 2)) (ci := 4) (C := RX4) (T := TX4) (N := 10) X Z hd1.i (hd1.c _) rfl inlX4 2 (by decide) wd_11_22 rfl dX4_copyFrom_18 ?_
  obtain ⟨G_3, e_G_3, hT⟩ := mx_nm hT
  refine mx_put (ci := 4) (C := RX4) (T := TX4) (N := 10) X Z hc.i (hc.c _) rfl inlX4 tyX4 tyX4_ok nmX4 2 (by decide) wd_11_22 rfl rfl rfl (by show 2 < 10; decide) ((hc.c _).trans (congrArg (fun z => Sum.inr (4, z)) (sp_Tr_2 _ _ _))) dX4_copyFrom_21 (fun H locs Z => ?_)
  rw [e_G_3] at Z
  refine lv_aload_n hx hb dX4_copyFrom_24 rfl (lv_at hl 0 rfl) ?_
  refine lv_aload_n hx hb dX4_copyFrom_25 rfl (lv_at hl 1 rfl) ?_
  refine mx_get (v := .int (G_3 d1 3)) (ci := 4) (C := RX4) (T := TX4) (N := 10) X Z hd1.i (hd1.c _) rfl inlX4 3 (by decide) wd_11_23 rfl dX4_copyFrom_26 ?_
  obtain ⟨G_4, e_G_4, hT⟩ := mx_nm hT
  refine mx_put (ci := 4) (C := RX4) (T := TX4) (N := 10) X Z hc.i (hc.c _) rfl inlX4 tyX4 tyX4_ok nmX4 3 (by decide) wd_11_23 rfl rfl rfl (by show 3 < 10; decide) ((hc.c _).trans (congrArg (fun z => Sum.inr (4, z)) (sp_Tr_3 _ _ _))) dX4_copyFrom_29 (fun H locs Z => ?_)
  rw [e_G_4] at Z
  refine lv_aload_n hx hb dX4_copyFrom_32 rfl (lv_at hl 0 rfl) ?_
  refine lv_aload_n hx hb dX4_copyFrom_33 rfl (lv_at hl 1 rfl) ?_
  refine mx_get (v := .int (G_4 d1 4)) (ci := 4) (C := RX4) (T := TX4) (N := 10) X Z hd1.i (hd1.c _) rfl inlX4 4 (by decide) wd_12_0 rfl dX4_copyFrom_34 ?_
  obtain ⟨h_5, hT⟩ := mx_chk hT
  obtain ⟨G_6, e_G_6, hT⟩ := mx_nm hT
  refine mx_put (ci := 4) (C := RX4) (T := TX4) (N := 10) X Z hc.i (hc.c _) rfl inlX4 tyX4 tyX4_ok nmX4 4 (by decide) wd_12_0 rfl (mBl.n h_5) (mBl.f h_5) (by show 4 < 10; decide) ((hc.c _).trans (congrArg (fun z => Sum.inr (4, z)) (sp_Tr_4 _ _ _))) dX4_copyFrom_37 (fun H locs Z => ?_)
  rw [e_G_6] at Z
  refine lv_aload_n hx hb dX4_copyFrom_40 rfl (lv_at hl 0 rfl) ?_
  refine lv_aload_n hx hb dX4_copyFrom_41 rfl (lv_at hl 1 rfl) ?_
  refine mx_get (v := .int (G_6 d1 5)) (ci := 4) (C := RX4) (T := TX4) (N := 10) X Z hd1.i (hd1.c _) rfl inlX4 5 (by decide) wd_12_1 rfl dX4_copyFrom_42 ?_
  obtain ⟨G_7, e_G_7, hT⟩ := mx_nm hT
  refine mx_put (ci := 4) (C := RX4) (T := TX4) (N := 10) X Z hc.i (hc.c _) rfl inlX4 tyX4 tyX4_ok nmX4 5 (by decide) wd_12_1 rfl rfl rfl (by show 5 < 10; decide) ((hc.c _).trans (congrArg (fun z => Sum.inr (4, z)) (sp_Tr_5 _ _ _))) dX4_copyFrom_45 (fun H locs Z => ?_)
  rw [e_G_7] at Z
  refine lv_aload_n hx hb dX4_copyFrom_48 rfl (lv_at hl 0 rfl) ?_
  refine lv_aload_n hx hb dX4_copyFrom_49 rfl (lv_at hl 1 rfl) ?_
  refine mx_get (v := .int (G_7 d1 6)) (ci := 4) (C := RX4) (T := TX4) (N := 10) X Z hd1.i (hd1.c _) rfl inlX4 6 (by decide) wd_12_2 rfl dX4_copyFrom_50 ?_
  obtain ⟨G_8, e_G_8, hT⟩ := mx_nm hT
  refine mx_put (ci := 4) (C := RX4) (T := TX4) (N := 10) X Z hc.i (hc.c _) rfl inlX4 tyX4 tyX4_ok nmX4 6 (by decide) wd_12_2 rfl rfl rfl (by show 6 < 10; decide) ((hc.c _).trans (congrArg (fun z => Sum.inr (4, z)) (sp_Tr_6 _ _ _))) dX4_copyFrom_53 (fun H locs Z => ?_)
  rw [e_G_8] at Z
  refine lv_aload_n hx hb dX4_copyFrom_56 rfl (lv_at hl 0 rfl) ?_
  refine lv_aload_n hx hb dX4_copyFrom_57 rfl (lv_at hl 1 rfl) ?_
  refine mx_get (v := .int (G_8 d1 7)) (ci := 4) (C := RX4) (T := TX4) (N := 10) X Z hd1.i (hd1.c _) rfl inlX4 7 (by decide) wd_12_3 rfl dX4_copyFrom_58 ?_
  obtain ⟨G_9, e_G_9, hT⟩ := mx_nm hT
  refine mx_put (ci := 4) (C := RX4) (T := TX4) (N := 10) X Z hc.i (hc.c _) rfl inlX4 tyX4 tyX4_ok nmX4 7 (by decide) wd_12_3 rfl rfl rfl (by show 7 < 10; decide) ((hc.c _).trans (congrArg (fun z => Sum.inr (4, z)) (sp_Tr_7 _ _ _))) dX4_copyFrom_61 (fun H locs Z => ?_)
  rw [e_G_9] at Z
  refine lv_aload_n hx hb dX4_copyFrom_64 rfl (lv_at hl 0 rfl) ?_
  refine lv_aload_n hx hb dX4_copyFrom_65 rfl (lv_at hl 1 rfl) ?_
  refine mx_get (v := .int (G_9 d1 8)) (ci := 4) (C := RX4) (T := TX4) (N := 10) X Z hd1.i (hd1.c _) rfl inlX4 8 (by decide) wd_12_4 rfl dX4_copyFrom_66 ?_
  obtain ⟨G_10, e_G_10, hT⟩ := mx_nm hT
  refine mx_put (ci := 4) (C := RX4) (T := TX4) (N := 10) X Z hc.i (hc.c _) rfl inlX4 tyX4 tyX4_ok nmX4 8 (by decide) wd_12_4 rfl rfl rfl (by show 8 < 10; decide) ((hc.c _).trans (congrArg (fun z => Sum.inr (4, z)) (sp_Tr_8 _ _ _))) dX4_copyFrom_69 (fun H locs Z => ?_)
  rw [e_G_10] at Z
  cases hT
  exact W.vret hx hb hr (fun t ht hW => mx_end Z t ht _) Z.2.2.2 dX4_copyFrom_72
/-! PeatRailway$Train.fullLoad -/
def x4_fullLoad (c : Nat) (G : mM) : Option Int32 :=
  some ((G c 0) * (G c 1))
theorem hd4_fullLoad : yX4_fullLoad.cls = RX4 ∧ yX4_fullLoad.cls ≠ "java/lang/invoke/MethodHandle" ∧ yX4_fullLoad.cls ≠ "java/lang/invoke/VarHandle" ∧ (parseMethodDescriptor yX4_fullLoad.desc).map (fun d => d.parameters.length) = some 0 := by decide +kernel
set_option maxHeartbeats 4000000 in
set_option maxRecDepth 100000 in
theorem c4_fullLoad (l : Launch) (E : mE) (hJ : mJ E) {c : Nat} (hc : mTr E c) (G : mM) (q : Int32) (hT : x4_fullLoad c G = some q) : mMet l E yX4_fullLoad cX4_fullLoad 1 (some .int) 0 0 [.ref (mad E (c))] G (some (.int q)) G := by
  refine Met.ofW (cc := cX4_fullLoad) (maxL := 1) (ret := (some .int)) (by decide) rfl ?_
  intro p e s m args below meth cd s₁ B hml hv
  obtain ⟨rfl, hP, hK, hS⟩ := hv
  have X := mx_entry (own := RX4) B hml hK hJ hS rfl
  have hx := X.1
  have hb := X.2.1
  have hown := X.2.2.2.1
  have hts := X.2.2.2.2.1
  have hr := B.returns
  have hlocks := B.notSynchronized
  have hR : 0 ≤ (headSpec (mWs yX4_fullLoad cX4_fullLoad 1 (some .int)) ({ frames := 0, cells := 0, slots := 0, locals := 0 })).room.frames ∧ 0 ≤ (headSpec (mWs yX4_fullLoad cX4_fullLoad 1 (some .int)) ({ frames := 0, cells := 0, slots := 0, locals := 0 })).room.locals := ⟨Nat.le_refl _, Nat.le_refl _⟩
  have Z : mZ E s.heap s.heap [] G := ⟨hP, va_S.rf⟩
  have hl := lv_entry ([.ref (mad E (c))]) (n := 1) (Nat.le_of_ble_eq_true rfl)
  rw [lg_entry_eq]
  generalize (lg_sl ([.ref (mad E (c))]) ++ List.replicate (1 - (lg_sl ([.ref (mad E (c))])).length) Slot.unset).toArray = ls at hl ⊢
  have hl : lv_has ls 1 [(0, .ref (mad E (c)))] := hl
  unfold x4_fullLoad at hT
  refine lv_aload_n hx hb dX4_fullLoad_0 rfl (lv_at hl 0 rfl) ?_
  refine mx_get (v := .int (G c 0)) (ci := 4) (C := RX4) (T := TX4) (N := 10) X Z hc.i (hc.c _) rfl inlX4 0 (by decide) wd_11_20 rfl dX4_fullLoad_1 ?_
  refine lv_aload_n hx hb dX4_fullLoad_4 rfl (lv_at hl 0 rfl) ?_
  refine mx_get (v := .int (G c 1)) (ci := 4) (C := RX4) (T := TX4) (N := 10) X Z hc.i (hc.c _) rfl inlX4 1 (by decide) wd_11_21 rfl dX4_fullLoad_5 ?_
  refine lv_imul hx hb dX4_fullLoad_8 ?_
  cases hT
  exact W.iret hx hb hr (fun t ht hW => mx_end Z t ht _) Z.2.2.2 dX4_fullLoad_9
/-! PeatRailway$Train.weight -/
def x4_weight (c : Nat) (G : mM) : Option Int32 :=
  some ((((4 : Int32)) + (((2 : Int32)) * (G c 0))) + (G c 2))
theorem hd4_weight : yX4_weight.cls = RX4 ∧ yX4_weight.cls ≠ "java/lang/invoke/MethodHandle" ∧ yX4_weight.cls ≠ "java/lang/invoke/VarHandle" ∧ (parseMethodDescriptor yX4_weight.desc).map (fun d => d.parameters.length) = some 0 := by decide +kernel
set_option maxHeartbeats 4000000 in
set_option maxRecDepth 100000 in
theorem c4_weight (l : Launch) (E : mE) (hJ : mJ E) {c : Nat} (hc : mTr E c) (G : mM) (q : Int32) (hT : x4_weight c G = some q) : mMet l E yX4_weight cX4_weight 1 (some .int) 0 0 [.ref (mad E (c))] G (some (.int q)) G := by
  refine Met.ofW (cc := cX4_weight) (maxL := 1) (ret := (some .int)) (by decide) rfl ?_
  intro p e s m args below meth cd s₁ B hml hv
  obtain ⟨rfl, hP, hK, hS⟩ := hv
  have X := mx_entry (own := RX4) B hml hK hJ hS rfl
  have hx := X.1
  have hb := X.2.1
  have hown := X.2.2.2.1
  have hts := X.2.2.2.2.1
  have hr := B.returns
  have hlocks := B.notSynchronized
  have hR : 0 ≤ (headSpec (mWs yX4_weight cX4_weight 1 (some .int)) ({ frames := 0, cells := 0, slots := 0, locals := 0 })).room.frames ∧ 0 ≤ (headSpec (mWs yX4_weight cX4_weight 1 (some .int)) ({ frames := 0, cells := 0, slots := 0, locals := 0 })).room.locals := ⟨Nat.le_refl _, Nat.le_refl _⟩
  have Z : mZ E s.heap s.heap [] G := ⟨hP, va_S.rf⟩
  have hl := lv_entry ([.ref (mad E (c))]) (n := 1) (Nat.le_of_ble_eq_true rfl)
  rw [lg_entry_eq]
  generalize (lg_sl ([.ref (mad E (c))]) ++ List.replicate (1 - (lg_sl ([.ref (mad E (c))])).length) Slot.unset).toArray = ls at hl ⊢
  have hl : lv_has ls 1 [(0, .ref (mad E (c)))] := hl
  unfold x4_weight at hT
  refine lv_iconst (v := (4 : Int32)) hx hb dX4_weight_0 (by decide) ?_
  refine lv_iconst (v := (2 : Int32)) hx hb dX4_weight_1 (by decide) ?_
  refine lv_aload_n hx hb dX4_weight_2 rfl (lv_at hl 0 rfl) ?_
  refine mx_get (v := .int (G c 0)) (ci := 4) (C := RX4) (T := TX4) (N := 10) X Z hc.i (hc.c _) rfl inlX4 0 (by decide) wd_11_20 rfl dX4_weight_3 ?_
  refine lv_imul hx hb dX4_weight_6 ?_
  refine lv_iadd hx hb dX4_weight_7 ?_
  refine lv_aload_n hx hb dX4_weight_8 rfl (lv_at hl 0 rfl) ?_
  refine mx_get (v := .int (G c 2)) (ci := 4) (C := RX4) (T := TX4) (N := 10) X Z hc.i (hc.c _) rfl inlX4 2 (by decide) wd_11_22 rfl dX4_weight_9 ?_
  refine lv_iadd hx hb dX4_weight_12 ?_
  cases hT
  exact W.iret hx hb hr (fun t ht hW => mx_end Z t ht _) Z.2.2.2 dX4_weight_13
/-! PeatRailway$State.segmentAt -/
def x3_segmentAt (c : Nat) (x1 : Int32) (G : mM) : Option (Option Nat) :=
  if x1 < 0 then
    some (none)
  else
    if (G c 3) ≤ x1 then
      some (none)
    else
      if x1 < ((12 : Int32)) then
        mCk (mIn x1 12) <|
        some (some (c + 4 + x1.toNatClampNeg))
      else
        some (none)
theorem hd3_segmentAt : yX3_segmentAt.cls = RX3 ∧ yX3_segmentAt.cls ≠ "java/lang/invoke/MethodHandle" ∧ yX3_segmentAt.cls ≠ "java/lang/invoke/VarHandle" ∧ (parseMethodDescriptor yX3_segmentAt.desc).map (fun d => d.parameters.length) = some 1 := by decide +kernel
set_option maxHeartbeats 4000000 in
set_option maxRecDepth 100000 in
theorem c3_segmentAt (l : Launch) (E : mE) (hJ : mJ E) {c : Nat} (hc : mSt E c) (x1 : Int32) (G : mM) (q : (Option Nat)) (hT : x3_segmentAt c x1 G = some q) : mMet l E yX3_segmentAt cX3_segmentAt 2 (some (.object "PeatRailway$Segment")) 0 0 [.ref (mad E (c)), .int (x1)] G (some (va_re (mad E) q)) G := by
  refine Met.ofW (cc := cX3_segmentAt) (maxL := 2) (ret := (some (.object "PeatRailway$Segment"))) (by decide) rfl ?_
  intro p e s m args below meth cd s₁ B hml hv
  obtain ⟨rfl, hP, hK, hS⟩ := hv
  have X := mx_entry (own := RX3) B hml hK hJ hS rfl
  have hx := X.1
  have hb := X.2.1
  have hown := X.2.2.2.1
  have hts := X.2.2.2.2.1
  have hr := B.returns
  have hlocks := B.notSynchronized
  have hR : 0 ≤ (headSpec (mWs yX3_segmentAt cX3_segmentAt 2 (some (.object "PeatRailway$Segment"))) ({ frames := 0, cells := 0, slots := 0, locals := 0 })).room.frames ∧ 0 ≤ (headSpec (mWs yX3_segmentAt cX3_segmentAt 2 (some (.object "PeatRailway$Segment"))) ({ frames := 0, cells := 0, slots := 0, locals := 0 })).room.locals := ⟨Nat.le_refl _, Nat.le_refl _⟩
  have Z : mZ E s.heap s.heap [] G := ⟨hP, va_S.rf⟩
  have hl := lv_entry ([.ref (mad E (c)), .int (x1)]) (n := 2) (Nat.le_of_ble_eq_true rfl)
  rw [lg_entry_eq]
  generalize (lg_sl ([.ref (mad E (c)), .int (x1)]) ++ List.replicate (2 - (lg_sl ([.ref (mad E (c)), .int (x1)])).length) Slot.unset).toArray = ls at hl ⊢
  have hl : lv_has ls 2 [(0, .ref (mad E (c))), (1, .int (x1))] := hl
  unfold x3_segmentAt at hT
  refine lv_iload_n hx hb dX3_segmentAt_0 rfl (lv_at hl 1 rfl) ?_
  refine lv_if_lt (tgt := 21) hx hb dX3_segmentAt_1 (by decide) (fun h_1 => ?_) (fun h_1 => ?_)
  · replace hT := mx_t hT h_1
    refine lv_null hx hb dX3_segmentAt_21 ?_
    cases hT
    exact W.aret hx hb hr (Or.inl ⟨_, rfl⟩) (Or.inl rfl) (fun t ht hW => mx_end Z t ht _) Z.2.2.2 dX3_segmentAt_22
  · replace hT := mx_f hT h_1
    refine lv_iload_n hx hb dX3_segmentAt_4 rfl (lv_at hl 1 rfl) ?_
    refine lv_aload_n hx hb dX3_segmentAt_5 rfl (lv_at hl 0 rfl) ?_
    refine mx_get (v := .int (G c 3)) (ci := 3) (C := RX3) (T := TX3) (N := 11) X Z hc.i (hc.c _) rfl inlX3 3 (by decide) wd_5_18 rfl dX3_segmentAt_6 ?_
    refine lv_icmp_ge (tgt := 21) hx hb dX3_segmentAt_9 (by decide) (fun h_2 => ?_) (fun h_2 => ?_)
    · replace hT := mx_t hT h_2
      refine lv_null hx hb dX3_segmentAt_21 ?_
      cases hT
      exact W.aret hx hb hr (Or.inl ⟨_, rfl⟩) (Or.inl rfl) (fun t ht hW => mx_end Z t ht _) Z.2.2.2 dX3_segmentAt_22
    · replace hT := mx_f hT h_2
      refine lv_iload_n hx hb dX3_segmentAt_12 rfl (lv_at hl 1 rfl) ?_
      refine lv_aload_n hx hb dX3_segmentAt_13 rfl (lv_at hl 0 rfl) ?_
      refine mx_get (v := .ref (mad E ((c + 1)))) (ci := 3) (C := RX3) (T := TX3) (N := 11) X Z hc.i (hc.c _) rfl inlX3 0 (by decide) wd_4_19 rfl dX3_segmentAt_14 ?_
      refine mx_alen (t := 2) (v := (12 : Int32)) X Z hc.segs.1 (hc.segs.2 _) rfl rfl dX3_segmentAt_17 ?_
      refine lv_icmp_lt (tgt := 23) hx hb dX3_segmentAt_18 (by decide) (fun h_3 => ?_) (fun h_3 => ?_)
      · replace hT := mx_t hT h_3
        refine lv_aload_n hx hb dX3_segmentAt_23 rfl (lv_at hl 0 rfl) ?_
        refine mx_get (v := .ref (mad E ((c + 1)))) (ci := 3) (C := RX3) (T := TX3) (N := 11) X Z hc.i (hc.c _) rfl inlX3 0 (by decide) wd_4_19 rfl dX3_segmentAt_24 ?_
        refine lv_iload_n hx hb dX3_segmentAt_27 rfl (lv_at hl 1 rfl) ?_
        obtain ⟨h_4, hT⟩ := mx_chk hT
        refine mx_aald (C := "PeatRailway$Segment") X Z hc.segs rfl h_4 dX3_segmentAt_28 ?_
        refine mx_tops (s2 := [.ref (mad E (c + 4 + x1.toNatClampNeg))]) rfl ?_
        cases hT
        exact W.aret hx hb hr (Or.inl ⟨_, rfl⟩) (Or.inr ⟨_, rfl⟩) (fun t ht hW => mx_end Z t ht _) Z.2.2.2 dX3_segmentAt_29
      · replace hT := mx_f hT h_3
        refine lv_null hx hb dX3_segmentAt_21 ?_
        cases hT
        exact W.aret hx hb hr (Or.inl ⟨_, rfl⟩) (Or.inl rfl) (fun t ht hW => mx_end Z t ht _) Z.2.2.2 dX3_segmentAt_22
theorem c3_segmentAt_k (E : mE) {c : Nat} (hc : mSt E c) (x1 : Int32) (G : mM) (q : Option Nat) (hT : x3_segmentAt c x1 G = some q) : ∀ o, q = some o → mSg E o := by
  unfold x3_segmentAt at hT
  intro o ho
  subst ho
  simp only [mCk] at hT
  repeat' (split at hT)
  all_goals first
    | (cases hT; done)
    | (cases hT; exact hc.seg (mx_lit (by assumption)))
/-! PeatRailway$State.trainAt -/
def x3_trainAt (c : Nat) (x1 : Int32) (G : mM) : Option (Option Nat) :=
  if x1 < 0 then
    some (none)
  else
    if (G c 4) ≤ x1 then
      some (none)
    else
      if x1 < ((4 : Int32)) then
        mCk (mIn x1 4) <|
        some (some (c + 16 + x1.toNatClampNeg))
      else
        some (none)
theorem hd3_trainAt : yX3_trainAt.cls = RX3 ∧ yX3_trainAt.cls ≠ "java/lang/invoke/MethodHandle" ∧ yX3_trainAt.cls ≠ "java/lang/invoke/VarHandle" ∧ (parseMethodDescriptor yX3_trainAt.desc).map (fun d => d.parameters.length) = some 1 := by decide +kernel
set_option maxHeartbeats 4000000 in
set_option maxRecDepth 100000 in
theorem c3_trainAt (l : Launch) (E : mE) (hJ : mJ E) {c : Nat} (hc : mSt E c) (x1 : Int32) (G : mM) (q : (Option Nat)) (hT : x3_trainAt c x1 G = some q) : mMet l E yX3_trainAt cX3_trainAt 2 (some (.object "PeatRailway$Train")) 0 0 [.ref (mad E (c)), .int (x1)] G (some (va_re (mad E) q)) G := by
  refine Met.ofW (cc := cX3_trainAt) (maxL := 2) (ret := (some (.object "PeatRailway$Train"))) (by decide) rfl ?_
  intro p e s m args below meth cd s₁ B hml hv
  obtain ⟨rfl, hP, hK, hS⟩ := hv
  have X := mx_entry (own := RX3) B hml hK hJ hS rfl
  have hx := X.1
  have hb := X.2.1
  have hown := X.2.2.2.1
  have hts := X.2.2.2.2.1
  have hr := B.returns
  have hlocks := B.notSynchronized
  have hR : 0 ≤ (headSpec (mWs yX3_trainAt cX3_trainAt 2 (some (.object "PeatRailway$Train"))) ({ frames := 0, cells := 0, slots := 0, locals := 0 })).room.frames ∧ 0 ≤ (headSpec (mWs yX3_trainAt cX3_trainAt 2 (some (.object "PeatRailway$Train"))) ({ frames := 0, cells := 0, slots := 0, locals := 0 })).room.locals := ⟨Nat.le_refl _, Nat.le_refl _⟩
  have Z : mZ E s.heap s.heap [] G := ⟨hP, va_S.rf⟩
  have hl := lv_entry ([.ref (mad E (c)), .int (x1)]) (n := 2) (Nat.le_of_ble_eq_true rfl)
  rw [lg_entry_eq]
  generalize (lg_sl ([.ref (mad E (c)), .int (x1)]) ++ List.replicate (2 - (lg_sl ([.ref (mad E (c)), .int (x1)])).length) Slot.unset).toArray = ls at hl ⊢
  have hl : lv_has ls 2 [(0, .ref (mad E (c))), (1, .int (x1))] := hl
  unfold x3_trainAt at hT
  refine lv_iload_n hx hb dX3_trainAt_0 rfl (lv_at hl 1 rfl) ?_
  refine lv_if_lt (tgt := 21) hx hb dX3_trainAt_1 (by decide) (fun h_1 => ?_) (fun h_1 => ?_)
  · replace hT := mx_t hT h_1
    refine lv_null hx hb dX3_trainAt_21 ?_
    cases hT
    exact W.aret hx hb hr (Or.inl ⟨_, rfl⟩) (Or.inl rfl) (fun t ht hW => mx_end Z t ht _) Z.2.2.2 dX3_trainAt_22
  · replace hT := mx_f hT h_1
    refine lv_iload_n hx hb dX3_trainAt_4 rfl (lv_at hl 1 rfl) ?_
    refine lv_aload_n hx hb dX3_trainAt_5 rfl (lv_at hl 0 rfl) ?_
    refine mx_get (v := .int (G c 4)) (ci := 3) (C := RX3) (T := TX3) (N := 11) X Z hc.i (hc.c _) rfl inlX3 4 (by decide) wd_11_4 rfl dX3_trainAt_6 ?_
    refine lv_icmp_ge (tgt := 21) hx hb dX3_trainAt_9 (by decide) (fun h_2 => ?_) (fun h_2 => ?_)
    · replace hT := mx_t hT h_2
      refine lv_null hx hb dX3_trainAt_21 ?_
      cases hT
      exact W.aret hx hb hr (Or.inl ⟨_, rfl⟩) (Or.inl rfl) (fun t ht hW => mx_end Z t ht _) Z.2.2.2 dX3_trainAt_22
    · replace hT := mx_f hT h_2
      refine lv_iload_n hx hb dX3_trainAt_12 rfl (lv_at hl 1 rfl) ?_
      refine lv_aload_n hx hb dX3_trainAt_13 rfl (lv_at hl 0 rfl) ?_
      refine mx_get (v := .ref (mad E ((c + 2)))) (ci := 3) (C := RX3) (T := TX3) (N := 11) X Z hc.i (hc.c _) rfl inlX3 1 (by decide) wd_4_23 rfl dX3_trainAt_14 ?_
      refine mx_alen (t := 4) (v := (4 : Int32)) X Z hc.trs.1 (hc.trs.2 _) rfl rfl dX3_trainAt_17 ?_
      refine lv_icmp_lt (tgt := 23) hx hb dX3_trainAt_18 (by decide) (fun h_3 => ?_) (fun h_3 => ?_)
      · replace hT := mx_t hT h_3
        refine lv_aload_n hx hb dX3_trainAt_23 rfl (lv_at hl 0 rfl) ?_
        refine mx_get (v := .ref (mad E ((c + 2)))) (ci := 3) (C := RX3) (T := TX3) (N := 11) X Z hc.i (hc.c _) rfl inlX3 1 (by decide) wd_4_23 rfl dX3_trainAt_24 ?_
        refine lv_iload_n hx hb dX3_trainAt_27 rfl (lv_at hl 1 rfl) ?_
        obtain ⟨h_4, hT⟩ := mx_chk hT
        refine mx_aald (C := "PeatRailway$Train") X Z hc.trs rfl h_4 dX3_trainAt_28 ?_
        refine mx_tops (s2 := [.ref (mad E (c + 16 + x1.toNatClampNeg))]) rfl ?_
        cases hT
        exact W.aret hx hb hr (Or.inl ⟨_, rfl⟩) (Or.inr ⟨_, rfl⟩) (fun t ht hW => mx_end Z t ht _) Z.2.2.2 dX3_trainAt_29
      · replace hT := mx_f hT h_3
        refine lv_null hx hb dX3_trainAt_21 ?_
        cases hT
        exact W.aret hx hb hr (Or.inl ⟨_, rfl⟩) (Or.inl rfl) (fun t ht hW => mx_end Z t ht _) Z.2.2.2 dX3_trainAt_22
theorem c3_trainAt_k (E : mE) {c : Nat} (hc : mSt E c) (x1 : Int32) (G : mM) (q : Option Nat) (hT : x3_trainAt c x1 G = some q) : ∀ o, q = some o → mTr E o := by
  unfold x3_trainAt at hT
  intro o ho
  subst ho
  simp only [mCk] at hT
  repeat' (split at hT)
  all_goals first
    | (cases hT; done)
    | (cases hT; exact hc.tr (mx_lit (by assumption)))
/-! PeatRailway$State.beginTrack -/
def x3_beginTrack (c : Nat) (G : mM) : Option mM :=
  mNm (up2 G c 3 ((0 : Int32))) fun G_1 =>
  some (G_1)
theorem hd3_beginTrack : yX3_beginTrack.cls = RX3 ∧ yX3_beginTrack.cls ≠ "java/lang/invoke/MethodHandle" ∧ yX3_beginTrack.cls ≠ "java/lang/invoke/VarHandle" ∧ (parseMethodDescriptor yX3_beginTrack.desc).map (fun d => d.parameters.length) = some 0 := by decide +kernel
set_option maxHeartbeats 4000000 in
set_option maxRecDepth 100000 in
theorem c3_beginTrack (l : Launch) (E : mE) (hJ : mJ E) {c : Nat} (hc : mSt E c) (G : mM) (q : mM) (hT : x3_beginTrack c G = some q) : mMet l E yX3_beginTrack cX3_beginTrack 1 none 0 0 [.ref (mad E (c))] G (none) q := by
  refine Met.ofW (cc := cX3_beginTrack) (maxL := 1) (ret := none) (by decide) rfl ?_
  intro p e s m args below meth cd s₁ B hml hv
  obtain ⟨rfl, hP, hK, hS⟩ := hv
  have X := mx_entry (own := RX3) B hml hK hJ hS rfl
  have hx := X.1
  have hb := X.2.1
  have hown := X.2.2.2.1
  have hts := X.2.2.2.2.1
  have hr := B.returns
  have hlocks := B.notSynchronized
  have hR : 0 ≤ (headSpec (mWs yX3_beginTrack cX3_beginTrack 1 none) ({ frames := 0, cells := 0, slots := 0, locals := 0 })).room.frames ∧ 0 ≤ (headSpec (mWs yX3_beginTrack cX3_beginTrack 1 none) ({ frames := 0, cells := 0, slots := 0, locals := 0 })).room.locals := ⟨Nat.le_refl _, Nat.le_refl _⟩
  have Z : mZ E s.heap s.heap [] G := ⟨hP, va_S.rf⟩
  have hl := lv_entry ([.ref (mad E (c))]) (n := 1) (Nat.le_of_ble_eq_true rfl)
  rw [lg_entry_eq]
  generalize (lg_sl ([.ref (mad E (c))]) ++ List.replicate (1 - (lg_sl ([.ref (mad E (c))])).length) Slot.unset).toArray = ls at hl ⊢
  have hl : lv_has ls 1 [(0, .ref (mad E (c)))] := hl
  unfold x3_beginTrack at hT
  refine lv_aload_n hx hb dX3_beginTrack_0 rfl (lv_at hl 0 rfl) ?_
  refine lv_iconst (v := (0 : Int32)) hx hb dX3_beginTrack_1 (by decide) ?_
  obtain ⟨G_1, e_G_1, hT⟩ := mx_nm hT
  refine mx_put (ci := 3) (C := RX3) (T := TX3) (N := 11) X Z hc.i (hc.c _) rfl inlX3 tyX3 tyX3_ok nmX3 3 (by decide) wd_5_18 rfl rfl rfl (by show 3 < 11; decide) ((hc.c _).trans (congrArg (fun z => Sum.inr (3, z)) (sp_St_3 (mad E) _ _ _))) dX3_beginTrack_2 (fun H locs Z => ?_)
  rw [e_G_1] at Z
  cases hT
  exact W.vret hx hb hr (fun t ht hW => mx_end Z t ht _) Z.2.2.2 dX3_beginTrack_5
/-! PeatRailway$State.trainsIn -/
def x3_trainsIn_L4 (y0 : Nat) (y1 : Int32) : Nat → Int32 → Int32 → mM → Option (Int32)
  | 0, _, _, _ => none
  | n + 1, w2, w3, G =>
    if ((4 : Int32)) ≤ w3 then
      some (w2)
    else
      (x3_trainAt y0 w3 G).bind fun q_2 =>
      mOpt q_2 (
        mNm (w3 + (1 : Int32)) fun v_5 =>
        x3_trainsIn_L4 y0 y1 n w2 v_5 G) fun o_3 =>
        if (G o_3 3) = y1 then
          mNm (w2 + (1 : Int32)) fun v_8 =>
          mNm (w3 + (1 : Int32)) fun v_9 =>
          x3_trainsIn_L4 y0 y1 n v_8 v_9 G
        else
          mNm (w3 + (1 : Int32)) fun v_7 =>
          x3_trainsIn_L4 y0 y1 n w2 v_7 G
def x3_trainsIn (c : Nat) (x1 : Int32) (G : mM) : Option Int32 :=
  (x3_trainsIn_L4 c x1 mFu ((0 : Int32)) ((0 : Int32)) G).bind fun q_10 =>
  some (q_10)
theorem hd3_trainsIn : yX3_trainsIn.cls = RX3 ∧ yX3_trainsIn.cls ≠ "java/lang/invoke/MethodHandle" ∧ yX3_trainsIn.cls ≠ "java/lang/invoke/VarHandle" ∧ (parseMethodDescriptor yX3_trainsIn.desc).map (fun d => d.parameters.length) = some 1 := by decide +kernel
set_option maxHeartbeats 4000000 in
set_option maxRecDepth 100000 in
theorem k3_trainsIn_4 {p : Program} {l : Launch} {e : Env} {R : Room} {s : State} {m : MethodId} {args : Array Value} {below : List Frame} {meth : Method} {cd : Code} {Q : State → Prop} {E : mE} (X : mX p s m args cd cX3_trainsIn 5 RX3 E) (hR : 1 ≤ R.frames ∧ 21 ≤ R.locals) (hJ : mJ E) {y0 : Nat} (hy0 : mSt E y0) (y1 : Int32) : ∀ (n : Nat) (w2 : Int32) (w3 : Int32) (G : mM) (H : Heap) (locs : List Loc) (ls : Array Slot) (r : Int32), x3_trainsIn_L4 y0 y1 n w2 w3 G = some r → mZ E s.heap H locs G → lv_has ls 5 [(0, .ref (mad E (y0))), (1, .int (y1)), (2, .int (w2)), (3, .int (w3))] → (∀ (H : Heap) (locs : List Loc) (ls : Array Slot), mZ E s.heap H locs G → lv_has ls 5 [(0, .ref (mad E (y0))), (1, .int (y1)), (2, .int (r))] → W p l e R s m args below meth cd H locs 0 0 Q (F0 m 39 ls [])) → W p l e R s m args below meth cd H locs 0 0 Q (F0 m 4 ls []) := by
  have hx := X.1
  have hb := X.2.1
  have hown := X.2.2.2.1
  have hts := X.2.2.2.2.1
  intro n
  induction n with
  | zero =>
    intro w2 w3 G H locs ls r hT
    rw [x3_trainsIn_L4] at hT
    cases hT
  | succ n ih =>
    intro w2 w3 G H locs ls r hT Z hl k0
    rw [x3_trainsIn_L4] at hT
    refine lv_iload_n hx hb dX3_trainsIn_4 rfl (lv_at hl 3 rfl) ?_
    refine lv_iconst (v := (4 : Int32)) hx hb dX3_trainsIn_5 (by decide) ?_
    refine lv_icmp_ge (tgt := 39) hx hb dX3_trainsIn_6 (by decide) (fun h_1 => ?_) (fun h_1 => ?_)
    · replace hT := mx_t hT h_1
      cases hT
      exact k0 _ _ _ Z (lv_sub hl [0, 1, 2] rfl)
    · replace hT := mx_f hT h_1
      refine lv_aload_n hx hb dX3_trainsIn_9 rfl (lv_at hl 0 rfl) ?_
      refine lv_iload_n hx hb dX3_trainsIn_10 rfl (lv_at hl 3 rfl) ?_
      obtain ⟨q_2, h_q_2, hT⟩ := mx_bind hT
      refine mx_callV (As := [.int (w3)]) (rest := []) (st1 := [va_re (mad E) q_2]) (C := RX3) (T := TX3) (N := 11) (ci := 3) X Z hl.1 (c3_trainAt l E hJ hy0 _ _ _ h_q_2) wd_12_14 wd_12_15 wd_12_16 wd_1_17 wd_12_17 hd3_trainAt ⟨Nat.le_trans (by decide) hR.1, Nat.le_trans (by decide) hR.2⟩ ⟨Nat.zero_le _, Nat.zero_le _⟩ hy0.i (hy0.c _) rfl (by decide) rfl rfl dX3_trainsIn_11 (fun H locs Z => ?_)
      have hk_4 := c3_trainAt_k E hy0 _ _ _ h_q_2
      rcases q_2 with _ | o_3
      · replace hT := mx_on hT
        refine mx_tops (s2 := [.null]) rfl ?_
        refine lv_astoreN (lv' := [(4, .null), (0, .ref (mad E (y0))), (1, .int (y1)), (2, .int (w2)), (3, .int (w3))]) hx hb dX3_trainsIn_14 hl (by decide) rfl (fun ls hl => ?_)
        refine lv_aloadN hx hb dX3_trainsIn_16 (lv_at hl 0 rfl) ?_
        refine lv_ifnullN (tgt := 33) hx hb dX3_trainsIn_18 (by decide) ?_
        obtain ⟨v_5, e_v_5, hT⟩ := mx_nm hT
        refine lv_iinc (v := v_5) (lv' := [(3, .int (v_5)), (4, .null), (0, .ref (mad E (y0))), (1, .int (y1)), (2, .int (w2))]) hx hb dX3_trainsIn_33 hl (k := 4) rfl (by rw [← e_v_5]; rfl) (by decide) rfl (fun ls hl => ?_)
        refine lv_goto (tgt := 4) hx hb dX3_trainsIn_36 (by decide) ?_
        exact ih _ _ _ _ _ _ _ hT Z (lv_sub hl [2, 3, 4, 0] rfl) k0
      · replace hT := mx_os hT
        refine mx_tops (s2 := [.ref (mad E o_3)]) rfl ?_
        refine lv_astore (lv' := [(4, .ref (mad E (o_3))), (0, .ref (mad E (y0))), (1, .int (y1)), (2, .int (w2)), (3, .int (w3))]) hx hb dX3_trainsIn_14 hl (by decide) rfl (fun ls hl => ?_)
        refine lv_aload hx hb dX3_trainsIn_16 (lv_at hl 0 rfl) ?_
        refine lv_ifnull hx hb dX3_trainsIn_18 ?_
        refine lv_aload hx hb dX3_trainsIn_21 (lv_at hl 0 rfl) ?_
        refine mx_get (v := .int (G o_3 3)) (ci := 4) (C := RX4) (T := TX4) (N := 10) X Z ((hk_4 o_3 rfl)).i (((hk_4 o_3 rfl)).c _) rfl inlX4 3 (by decide) wd_18_10 rfl dX3_trainsIn_23 ?_
        refine lv_iload_n hx hb dX3_trainsIn_26 rfl (lv_at hl 2 rfl) ?_
        refine lv_icmp_ne (tgt := 33) hx hb dX3_trainsIn_27 (by decide) (fun h_6 => ?_) (fun h_6 => ?_)
        · replace hT := mx_f hT h_6
          obtain ⟨v_7, e_v_7, hT⟩ := mx_nm hT
          refine lv_iinc (v := v_7) (lv' := [(3, .int (v_7)), (4, .ref (mad E (o_3))), (0, .ref (mad E (y0))), (1, .int (y1)), (2, .int (w2))]) hx hb dX3_trainsIn_33 hl (k := 4) rfl (by rw [← e_v_7]; rfl) (by decide) rfl (fun ls hl => ?_)
          refine lv_goto (tgt := 4) hx hb dX3_trainsIn_36 (by decide) ?_
          exact ih _ _ _ _ _ _ _ hT Z (lv_sub hl [2, 3, 4, 0] rfl) k0
        · replace hT := mx_t hT h_6
          obtain ⟨v_8, e_v_8, hT⟩ := mx_nm hT
          refine lv_iinc (v := v_8) (lv' := [(2, .int (v_8)), (4, .ref (mad E (o_3))), (0, .ref (mad E (y0))), (1, .int (y1)), (3, .int (w3))]) hx hb dX3_trainsIn_30 hl (k := 3) rfl (by rw [← e_v_8]; rfl) (by decide) rfl (fun ls hl => ?_)
          obtain ⟨v_9, e_v_9, hT⟩ := mx_nm hT
          refine lv_iinc (v := v_9) (lv' := [(3, .int (v_9)), (2, .int (v_8)), (4, .ref (mad E (o_3))), (0, .ref (mad E (y0))), (1, .int (y1))]) hx hb dX3_trainsIn_33 hl (k := 4) rfl (by rw [← e_v_9]; rfl) (by decide) rfl (fun ls hl => ?_)
          refine lv_goto (tgt := 4) hx hb dX3_trainsIn_36 (by decide) ?_
          exact ih _ _ _ _ _ _ _ hT Z (lv_sub hl [3, 4, 1, 0] rfl) k0
set_option maxHeartbeats 4000000 in
set_option maxRecDepth 100000 in
theorem c3_trainsIn (l : Launch) (E : mE) (hJ : mJ E) {c : Nat} (hc : mSt E c) (x1 : Int32) (G : mM) (q : Int32) (hT : x3_trainsIn c x1 G = some q) : mMet l E yX3_trainsIn cX3_trainsIn 5 (some .int) 1 21 [.ref (mad E (c)), .int (x1)] G (some (.int q)) G := by
  refine Met.ofW (cc := cX3_trainsIn) (maxL := 5) (ret := (some .int)) (by decide) rfl ?_
  intro p e s m args below meth cd s₁ B hml hv
  obtain ⟨rfl, hP, hK, hS⟩ := hv
  have X := mx_entry (own := RX3) B hml hK hJ hS rfl
  have hx := X.1
  have hb := X.2.1
  have hown := X.2.2.2.1
  have hts := X.2.2.2.2.1
  have hr := B.returns
  have hlocks := B.notSynchronized
  have hR : 1 ≤ (headSpec (mWs yX3_trainsIn cX3_trainsIn 5 (some .int)) ({ frames := 1, cells := 0, slots := 0, locals := 21 })).room.frames ∧ 21 ≤ (headSpec (mWs yX3_trainsIn cX3_trainsIn 5 (some .int)) ({ frames := 1, cells := 0, slots := 0, locals := 21 })).room.locals := ⟨Nat.le_refl _, Nat.le_refl _⟩
  have Z : mZ E s.heap s.heap [] G := ⟨hP, va_S.rf⟩
  have hl := lv_entry ([.ref (mad E (c)), .int (x1)]) (n := 5) (Nat.le_of_ble_eq_true rfl)
  rw [lg_entry_eq]
  generalize (lg_sl ([.ref (mad E (c)), .int (x1)]) ++ List.replicate (5 - (lg_sl ([.ref (mad E (c)), .int (x1)])).length) Slot.unset).toArray = ls at hl ⊢
  have hl : lv_has ls 5 [(0, .ref (mad E (c))), (1, .int (x1))] := hl
  unfold x3_trainsIn at hT
  refine lv_iconst (v := (0 : Int32)) hx hb dX3_trainsIn_0 (by decide) ?_
  refine lv_istore_n (lv' := [(2, .int ((0 : Int32))), (0, .ref (mad E (c))), (1, .int (x1))]) hx hb dX3_trainsIn_1 rfl hl (by decide) rfl (fun ls hl => ?_)
  refine lv_iconst (v := (0 : Int32)) hx hb dX3_trainsIn_2 (by decide) ?_
  refine lv_istore_n (lv' := [(3, .int ((0 : Int32))), (2, .int ((0 : Int32))), (0, .ref (mad E (c))), (1, .int (x1))]) hx hb dX3_trainsIn_3 rfl hl (by decide) rfl (fun ls hl => ?_)
  obtain ⟨q_10, h_q_10, hT⟩ := mx_bind hT
  refine k3_trainsIn_4 X hR hJ hc _ _ _ _ _ _ _ _ _ h_q_10 Z (lv_sub (l' := [(0, .ref (mad E (c))), (1, .int (x1)), (2, .int ((0 : Int32))), (3, .int ((0 : Int32)))]) hl [2, 3, 1, 0] rfl) (fun H locs ls Z hl => ?_)
  · refine lv_iload_n hx hb dX3_trainsIn_39 rfl (lv_at hl 2 rfl) ?_
    cases hT
    exact W.iret hx hb hr (fun t ht hW => mx_end Z t ht _) Z.2.2.2 dX3_trainsIn_40
