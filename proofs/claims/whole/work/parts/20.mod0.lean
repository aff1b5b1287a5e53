/-! PeatRailwayModel.within -/
def x6_within (x0 : Int32) (x1 : Int32) (x2 : Int32) (G : mM) : Option Int32 :=
  if x0 < x1 then
    some ((0 : Int32))
  else
    if x2 < x0 then
      some ((0 : Int32))
    else
      some ((1 : Int32))
theorem hd6_within : yX6_within.cls ≠ "java/lang/invoke/MethodHandle" ∧ yX6_within.cls ≠ "java/lang/invoke/VarHandle" ∧ (parseMethodDescriptor yX6_within.desc).map (fun d => d.parameters.length) = some 3 := by decide +kernel
set_option maxHeartbeats 4000000 in
set_option maxRecDepth 100000 in
theorem c6_within (l : Launch) (E : mE) (hJ : mJ E) (x0 : Int32) (x1 : Int32) (x2 : Int32) (G : mM) (q : Int32) (hT : x6_within x0 x1 x2 G = some q) : mMet l E yX6_within cX6_within 3 (some .boolean) 0 0 [.int (x0), .int (x1), .int (x2)] G (some (.int q)) G := by
  refine Met.ofW (cc := cX6_within) (maxL := 3) (ret := (some .boolean)) (by decide) rfl ?_
  intro p e s m args below meth cd s₁ B hml hv
  obtain ⟨rfl, hP, hK, hS⟩ := hv
  have X := mx_entry (own := RX6) B hml hK hJ hS rfl
  have hx := X.1
  have hb := X.2.1
  have hown := X.2.2.2.1
  have hts := X.2.2.2.2.1
  have hr := B.returns
  have hlocks := B.notSynchronized
  have hR : 0 ≤ (headSpec (mWs yX6_within cX6_within 3 (some .boolean)) ({ frames := 0, cells := 0, slots := 0, locals := 0 })).room.frames ∧ 0 ≤ (headSpec (mWs yX6_within cX6_within 3 (some .boolean)) ({ frames := 0, cells := 0, slots := 0, locals := 0 })).room.locals := ⟨Nat.le_refl _, Nat.le_refl _⟩
  have Z : mZ E s.heap s.heap [] G := ⟨hP, va_S.rf⟩
  have hl := lv_entry ([.int (x0), .int (x1), .int (x2)]) (n := 3) (Nat.le_of_ble_eq_true rfl)
  rw [lg_entry_eq]
  generalize (lg_sl ([.int (x0), .int (x1), .int (x2)]) ++ List.replicate (3 - (lg_sl ([.int (x0), .int (x1), .int (x2)])).length) Slot.unset).toArray = ls at hl ⊢
  have hl : lv_has ls 3 [(0, .int (x0)), (1, .int (x1)), (2, .int (x2))] := hl
  unfold x6_within at hT
  refine lv_iload_n hx hb dX6_within_0 rfl (lv_at hl 0 rfl) ?_
  refine lv_iload_n hx hb dX6_within_1 rfl (lv_at hl 1 rfl) ?_
  refine lv_icmp_lt (tgt := 14) hx hb dX6_within_2 (by decide) (fun h_1 => ?_) (fun h_1 => ?_)
  · replace hT := mx_t hT h_1
    refine lv_iconst (v := (0 : Int32)) hx hb dX6_within_14 (by decide) ?_
    cases hT
    exact W.zret (v := (0 : Int32)) hx hb hr rfl (fun t ht hW => mx_end Z t ht _) Z.2.2.2 dX6_within_15
  · replace hT := mx_f hT h_1
    refine lv_iload_n hx hb dX6_within_5 rfl (lv_at hl 0 rfl) ?_
    refine lv_iload_n hx hb dX6_within_6 rfl (lv_at hl 2 rfl) ?_
    refine lv_icmp_gt (tgt := 14) hx hb dX6_within_7 (by decide) (fun h_2 => ?_) (fun h_2 => ?_)
    · replace hT := mx_t hT h_2
      refine lv_iconst (v := (0 : Int32)) hx hb dX6_within_14 (by decide) ?_
      cases hT
      exact W.zret (v := (0 : Int32)) hx hb hr rfl (fun t ht hW => mx_end Z t ht _) Z.2.2.2 dX6_within_15
    · replace hT := mx_f hT h_2
      refine lv_iconst (v := (1 : Int32)) hx hb dX6_within_10 (by decide) ?_
      refine lv_goto (tgt := 15) hx hb dX6_within_11 (by decide) ?_
      cases hT
      exact W.zret (v := (1 : Int32)) hx hb hr rfl (fun t ht hW => mx_end Z t ht _) Z.2.2.2 dX6_within_15
/-! PeatRailwayModel.seg -/
def x6_seg (x1 : Int32) (x2 : Int32) (G : mM) : Option Int32 :=
  mCk (mIn ((((0 : Int32)) + (((3 : Int32)) * x1)) + x2) 82) <|
  some (G 247 (((((0 : Int32)) + (((3 : Int32)) * x1)) + x2).toNatClampNeg))
theorem hd6_seg : yX6_seg.cls = RX6 ∧ yX6_seg.cls ≠ "java/lang/invoke/MethodHandle" ∧ yX6_seg.cls ≠ "java/lang/invoke/VarHandle" ∧ (parseMethodDescriptor yX6_seg.desc).map (fun d => d.parameters.length) = some 2 := by decide +kernel
set_option maxHeartbeats 4000000 in
set_option maxRecDepth 100000 in
theorem c6_seg (l : Launch) (E : mE) (hJ : mJ E) (hc : mMo E 246) (x1 : Int32) (x2 : Int32) (G : mM) (q : Int32) (hT : x6_seg x1 x2 G = some q) : mMet l E yX6_seg cX6_seg 3 (some .int) 0 0 [.ref (mad E (246)), .int (x1), .int (x2)] G (some (.int q)) G := by
  refine Met.ofW (cc := cX6_seg) (maxL := 3) (ret := (some .int)) (by decide) rfl ?_
  intro p e s m args below meth cd s₁ B hml hv
  obtain ⟨rfl, hP, hK, hS⟩ := hv
  have X := mx_entry (own := RX6) B hml hK hJ hS rfl
  have hx := X.1
  have hb := X.2.1
  have hown := X.2.2.2.1
  have hts := X.2.2.2.2.1
  have hr := B.returns
  have hlocks := B.notSynchronized
  have hR : 0 ≤ (headSpec (mWs yX6_seg cX6_seg 3 (some .int)) ({ frames := 0, cells := 0, slots := 0, locals := 0 })).room.frames ∧ 0 ≤ (headSpec (mWs yX6_seg cX6_seg 3 (some .int)) ({ frames := 0, cells := 0, slots := 0, locals := 0 })).room.locals := ⟨Nat.le_refl _, Nat.le_refl _⟩
  have Z : mZ E s.heap s.heap [] G := ⟨hP, va_S.rf⟩
  have hl := lv_entry ([.ref (mad E (246)), .int (x1), .int (x2)]) (n := 3) (Nat.le_of_ble_eq_true rfl)
  rw [lg_entry_eq]
  generalize (lg_sl ([.ref (mad E (246)), .int (x1), .int (x2)]) ++ List.replicate (3 - (lg_sl ([.ref (mad E (246)), .int (x1), .int (x2)])).length) Slot.unset).toArray = ls at hl ⊢
  have hl : lv_has ls 3 [(0, .ref (mad E (246))), (1, .int (x1)), (2, .int (x2))] := hl
  unfold x6_seg at hT
  refine lv_aload_n hx hb dX6_seg_0 rfl (lv_at hl 0 rfl) ?_
  refine mx_get (v := .ref (mad E (247))) (ci := 6) (C := RX6) (T := TX6) (N := 11) X Z hc.i (hc.c _) rfl inlX6 0 (by decide) wd_7_23 rfl dX6_seg_1 ?_
  refine lv_iconst (v := (0 : Int32)) hx hb dX6_seg_4 (by decide) ?_
  refine lv_iconst (v := (3 : Int32)) hx hb dX6_seg_5 (by decide) ?_
  refine lv_iload_n hx hb dX6_seg_6 rfl (lv_at hl 1 rfl) ?_
  refine lv_imul hx hb dX6_seg_7 ?_
  refine lv_iadd hx hb dX6_seg_8 ?_
  refine lv_iload_n hx hb dX6_seg_9 rfl (lv_at hl 2 rfl) ?_
  refine lv_iadd hx hb dX6_seg_10 ?_
  obtain ⟨h_1, hT⟩ := mx_chk hT
  refine mx_iald X Z hc.z h_1 dX6_seg_11 ?_
  cases hT
  exact W.iret hx hb hr (fun t ht hW => mx_end Z t ht _) Z.2.2.2 dX6_seg_12
/-! PeatRailwayModel.of -/
def x6_of (x1 : Int32) (x2 : Int32) (G : mM) : Option Int32 :=
  mCk (mIn ((((36 : Int32)) + (((9 : Int32)) * x1)) + x2) 82) <|
  some (G 247 (((((36 : Int32)) + (((9 : Int32)) * x1)) + x2).toNatClampNeg))
theorem hd6_of : yX6_of.cls = RX6 ∧ yX6_of.cls ≠ "java/lang/invoke/MethodHandle" ∧ yX6_of.cls ≠ "java/lang/invoke/VarHandle" ∧ (parseMethodDescriptor yX6_of.desc).map (fun d => d.parameters.length) = some 2 := by decide +kernel
set_option maxHeartbeats 4000000 in
set_option maxRecDepth 100000 in
theorem c6_of (l : Launch) (E : mE) (hJ : mJ E) (hc : mMo E 246) (x1 : Int32) (x2 : Int32) (G : mM) (q : Int32) (hT : x6_of x1 x2 G = some q) : mMet l E yX6_of cX6_of 3 (some .int) 0 0 [.ref (mad E (246)), .int (x1), .int (x2)] G (some (.int q)) G := by
  refine Met.ofW (cc := cX6_of) (maxL := 3) (ret := (some .int)) (by decide) rfl ?_
  intro p e s m args below meth cd s₁ B hml hv
  obtain ⟨rfl, hP, hK, hS⟩ := hv
  have X := mx_entry (own := RX6) B hml hK hJ hS rfl
  have hx := X.1
  have hb := X.2.1
  have hown := X.2.2.2.1
  have hts := X.2.2.2.2.1
  have hr := B.returns
  have hlocks := B.notSynchronized
  have hR : 0 ≤ (headSpec (mWs yX6_of cX6_of 3 (some .int)) ({ frames := 0, cells := 0, slots := 0, locals := 0 })).room.frames ∧ 0 ≤ (headSpec (mWs yX6_of cX6_of 3 (some .int)) ({ frames := 0, cells := 0, slots := 0, locals := 0 })).room.locals := ⟨Nat.le_refl _, Nat.le_refl _⟩
  have Z : mZ E s.heap s.heap [] G := ⟨hP, va_S.rf⟩
  have hl := lv_entry ([.ref (mad E (246)), .int (x1), .int (x2)]) (n := 3) (Nat.le_of_ble_eq_true rfl)
  rw [lg_entry_eq]
  generalize (lg_sl ([.ref (mad E (246)), .int (x1), .int (x2)]) ++ List.replicate (3 - (lg_sl ([.ref (mad E (246)), .int (x1), .int (x2)])).length) Slot.unset).toArray = ls at hl ⊢
  have hl : lv_has ls 3 [(0, .ref (mad E (246))), (1, .int (x1)), (2, .int (x2))] := hl
  unfold x6_of at hT
  refine lv_aload_n hx hb dX6_of_0 rfl (lv_at hl 0 rfl) ?_
  refine mx_get (v := .ref (mad E (247))) (ci := 6) (C := RX6) (T := TX6) (N := 11) X Z hc.i (hc.c _) rfl inlX6 0 (by decide) wd_7_23 rfl dX6_of_1 ?_
  refine lv_bipush (v := (36 : Int32)) hx hb dX6_of_4 (by decide) ?_
  refine lv_bipush (v := (9 : Int32)) hx hb dX6_of_6 (by decide) ?_
  refine lv_iload_n hx hb dX6_of_8 rfl (lv_at hl 1 rfl) ?_
  refine lv_imul hx hb dX6_of_9 ?_
  refine lv_iadd hx hb dX6_of_10 ?_
  refine lv_iload_n hx hb dX6_of_11 rfl (lv_at hl 2 rfl) ?_
  refine lv_iadd hx hb dX6_of_12 ?_
  obtain ⟨h_1, hT⟩ := mx_chk hT
  refine mx_iald X Z hc.z h_1 dX6_of_13 ?_
  cases hT
  exact W.iret hx hb hr (fun t ht hW => mx_end Z t ht _) Z.2.2.2 dX6_of_14
/-! PeatRailwayModel.put -/
def x6_put (x1 : Int32) (x2 : Int32) (x3 : Int32) (G : mM) : Option mM :=
  mCk (mIn ((((36 : Int32)) + (((9 : Int32)) * x1)) + x2) 82) <|
  mNm (up2 G 247 (((((36 : Int32)) + (((9 : Int32)) * x1)) + x2).toNatClampNeg) x3) fun G_2 =>
  some (G_2)
theorem hd6_put : yX6_put.cls = RX6 ∧ yX6_put.cls ≠ "java/lang/invoke/MethodHandle" ∧ yX6_put.cls ≠ "java/lang/invoke/VarHandle" ∧ (parseMethodDescriptor yX6_put.desc).map (fun d => d.parameters.length) = some 3 := by decide +kernel
set_option maxHeartbeats 4000000 in
set_option maxRecDepth 100000 in
theorem c6_put (l : Launch) (E : mE) (hJ : mJ E) (hc : mMo E 246) (x1 : Int32) (x2 : Int32) (x3 : Int32) (G : mM) (q : mM) (hT : x6_put x1 x2 x3 G = some q) : mMet l E yX6_put cX6_put 4 none 0 0 [.ref (mad E (246)), .int (x1), .int (x2), .int (x3)] G (none) q := by
  refine Met.ofW (cc := cX6_put) (maxL := 4) (ret := none) (by decide) rfl ?_
  intro p e s m args below meth cd s₁ B hml hv
  obtain ⟨rfl, hP, hK, hS⟩ := hv
  have X := mx_entry (own := RX6) B hml hK hJ hS rfl
  have hx := X.1
  have hb := X.2.1
  have hown := X.2.2.2.1
  have hts := X.2.2.2.2.1
  have hr := B.returns
  have hlocks := B.notSynchronized
  have hR : 0 ≤ (headSpec (mWs yX6_put cX6_put 4 none) ({ frames := 0, cells := 0, slots := 0, locals := 0 })).room.frames ∧ 0 ≤ (headSpec (mWs yX6_put cX6_put 4 none) ({ frames := 0, cells := 0, slots := 0, locals := 0 })).room.locals := ⟨Nat.le_refl _, Nat.le_refl _⟩
  have Z : mZ E s.heap s.heap [] G := ⟨hP, va_S.rf⟩
  have hl := lv_entry ([.ref (mad E (246)), .int (x1), .int (x2), .int (x3)]) (n := 4) (Nat.le_of_ble_eq_true rfl)
  rw [lg_entry_eq]
  generalize (lg_sl ([.ref (mad E (246)), .int (x1), .int (x2), .int (x3)]) ++ List.replicate (4 - (lg_sl ([.ref (mad E (246)), .int (x1), .int (x2), .int (x3)])).length) Slot.unset).toArray = ls at hl ⊢
  have hl : lv_has ls 4 [(0, .ref (mad E (246))), (1, .int (x1)), (2, .int (x2)), (3, .int (x3))] := hl
  unfold x6_put at hT
  refine lv_aload_n hx hb dX6_put_0 rfl (lv_at hl 0 rfl) ?_
  refine mx_get (v := .ref (mad E (247))) (ci := 6) (C := RX6) (T := TX6) (N := 11) X Z hc.i (hc.c _) rfl inlX6 0 (by decide) wd_7_23 rfl dX6_put_1 ?_
  refine lv_bipush (v := (36 : Int32)) hx hb dX6_put_4 (by decide) ?_
  refine lv_bipush (v := (9 : Int32)) hx hb dX6_put_6 (by decide) ?_
  refine lv_iload_n hx hb dX6_put_8 rfl (lv_at hl 1 rfl) ?_
  refine lv_imul hx hb dX6_put_9 ?_
  refine lv_iadd hx hb dX6_put_10 ?_
  refine lv_iload_n hx hb dX6_put_11 rfl (lv_at hl 2 rfl) ?_
  refine lv_iadd hx hb dX6_put_12 ?_
  refine lv_iload_n hx hb dX6_put_13 rfl (lv_at hl 3 rfl) ?_
  obtain ⟨h_1, hT⟩ := mx_chk hT
  obtain ⟨G_2, e_G_2, hT⟩ := mx_nm hT
  refine mx_iast X Z hc.z h_1 dX6_put_14 (fun H locs Z => ?_)
  rw [e_G_2] at Z
  cases hT
  exact W.vret hx hb hr (fun t ht hW => mx_end Z t ht _) Z.2.2.2 dX6_put_15
/-! PeatRailwayModel.other -/
def x6_other (x1 : Int32) (G : mM) : Option Int32 :=
  mCk (mIn (((75 : Int32)) + x1) 82) <|
  some (G 247 ((((75 : Int32)) + x1).toNatClampNeg))
theorem hd6_other : yX6_other.cls = RX6 ∧ yX6_other.cls ≠ "java/lang/invoke/MethodHandle" ∧ yX6_other.cls ≠ "java/lang/invoke/VarHandle" ∧ (parseMethodDescriptor yX6_other.desc).map (fun d => d.parameters.length) = some 1 := by decide +kernel
set_option maxHeartbeats 4000000 in
set_option maxRecDepth 100000 in
theorem c6_other (l : Launch) (E : mE) (hJ : mJ E) (hc : mMo E 246) (x1 : Int32) (G : mM) (q : Int32) (hT : x6_other x1 G = some q) : mMet l E yX6_other cX6_other 2 (some .int) 0 0 [.ref (mad E (246)), .int (x1)] G (some (.int q)) G := by
  refine Met.ofW (cc := cX6_other) (maxL := 2) (ret := (some .int)) (by decide) rfl ?_
  intro p e s m args below meth cd s₁ B hml hv
  obtain ⟨rfl, hP, hK, hS⟩ := hv
  have X := mx_entry (own := RX6) B hml hK hJ hS rfl
  have hx := X.1
  have hb := X.2.1
  have hown := X.2.2.2.1
  have hts := X.2.2.2.2.1
  have hr := B.returns
  have hlocks := B.notSynchronized
  have hR : 0 ≤ (headSpec (mWs yX6_other cX6_other 2 (some .int)) ({ frames := 0, cells := 0, slots := 0, locals := 0 })).room.frames ∧ 0 ≤ (headSpec (mWs yX6_other cX6_other 2 (some .int)) ({ frames := 0, cells := 0, slots := 0, locals := 0 })).room.locals := ⟨Nat.le_refl _, Nat.le_refl _⟩
  have Z : mZ E s.heap s.heap [] G := ⟨hP, va_S.rf⟩
  have hl := lv_entry ([.ref (mad E (246)), .int (x1)]) (n := 2) (Nat.le_of_ble_eq_true rfl)
  rw [lg_entry_eq]
  generalize (lg_sl ([.ref (mad E (246)), .int (x1)]) ++ List.replicate (2 - (lg_sl ([.ref (mad E (246)), .int (x1)])).length) Slot.unset).toArray = ls at hl ⊢
  have hl : lv_has ls 2 [(0, .ref (mad E (246))), (1, .int (x1))] := hl
  unfold x6_other at hT
  refine lv_aload_n hx hb dX6_other_0 rfl (lv_at hl 0 rfl) ?_
  refine mx_get (v := .ref (mad E (247))) (ci := 6) (C := RX6) (T := TX6) (N := 11) X Z hc.i (hc.c _) rfl inlX6 0 (by decide) wd_7_23 rfl dX6_other_1 ?_
  refine lv_bipush (v := (75 : Int32)) hx hb dX6_other_4 (by decide) ?_
  refine lv_iload_n hx hb dX6_other_6 rfl (lv_at hl 1 rfl) ?_
  refine lv_iadd hx hb dX6_other_7 ?_
  obtain ⟨h_1, hT⟩ := mx_chk hT
  refine mx_iald X Z hc.z h_1 dX6_other_8 ?_
  cases hT
  exact W.iret hx hb hr (fun t ht hW => mx_end Z t ht _) Z.2.2.2 dX6_other_9
/-! PeatRailwayModel.putSegment -/
def x6_putSegment (x1 : Int32) (x2 : Int32) (x3 : Int32) (G : mM) : Option mM :=
  mCk (mIn ((((0 : Int32)) + (((3 : Int32)) * x1)) + ((0 : Int32))) 82) <|
  mNm (up2 G 247 (((((0 : Int32)) + (((3 : Int32)) * x1)) + ((0 : Int32))).toNatClampNeg) x2) fun G_2 =>
  if x3 = 0 then
    mCk (mIn ((((0 : Int32)) + (((3 : Int32)) * x1)) + ((1 : Int32))) 82) <|
    mNm (up2 G_2 247 (((((0 : Int32)) + (((3 : Int32)) * x1)) + ((1 : Int32))).toNatClampNeg) ((0 : Int32))) fun G_5 =>
    mCk (mIn ((((0 : Int32)) + (((3 : Int32)) * x1)) + ((2 : Int32))) 82) <|
    mNm (up2 G_5 247 (((((0 : Int32)) + (((3 : Int32)) * x1)) + ((2 : Int32))).toNatClampNeg) ((0 : Int32))) fun G_7 =>
    some (G_7)
  else
    mCk (mIn ((((0 : Int32)) + (((3 : Int32)) * x1)) + ((1 : Int32))) 82) <|
    mNm (up2 G_2 247 (((((0 : Int32)) + (((3 : Int32)) * x1)) + ((1 : Int32))).toNatClampNeg) ((1 : Int32))) fun G_9 =>
    mCk (mIn ((((0 : Int32)) + (((3 : Int32)) * x1)) + ((2 : Int32))) 82) <|
    mNm (up2 G_9 247 (((((0 : Int32)) + (((3 : Int32)) * x1)) + ((2 : Int32))).toNatClampNeg) ((0 : Int32))) fun G_11 =>
    some (G_11)
theorem hd6_putSegment : yX6_putSegment.cls = RX6 ∧ yX6_putSegment.cls ≠ "java/lang/invoke/MethodHandle" ∧ yX6_putSegment.cls ≠ "java/lang/invoke/VarHandle" ∧ (parseMethodDescriptor yX6_putSegment.desc).map (fun d => d.parameters.length) = some 3 := by decide +kernel
set_option maxHeartbeats 4000000 in
set_option maxRecDepth 100000 in
theorem c6_putSegment (l : Launch) (E : mE) (hJ : mJ E) (hc : mMo E 246) (x1 : Int32) (x2 : Int32) (x3 : Int32) (G : mM) (q : mM) (hT : x6_putSegment x1 x2 x3 G = some q) : mMet l E yX6_putSegment cX6_putSegment 4 none 0 0 [.ref (mad E (246)), .int (x1), .int (x2), .int (x3)] G (none) q := by
  refine Met.ofW (cc := cX6_putSegment) (maxL := 4) (ret := none) (by decide) rfl ?_
  intro p e s m args below meth cd s₁ B hml hv
  obtain ⟨rfl, hP, hK, hS⟩ := hv
  have X := mx_entry (own := RX6) B hml hK hJ hS rfl
  have hx := X.1
  have hb := X.2.1
  have hown := X.2.2.2.1
  have hts := X.2.2.2.2.1
  have hr := B.returns
  have hlocks := B.notSynchronized
  have hR : 0 ≤ (headSpec (mWs yX6_putSegment cX6_putSegment 4 none) ({ frames := 0, cells := 0, slots := 0, locals := 0 })).room.frames ∧ 0 ≤ (headSpec (mWs yX6_putSegment cX6_putSegment 4 none) ({ frames := 0, cells := 0, slots := 0, locals := 0 })).room.locals := ⟨Nat.le_refl _, Nat.le_refl _⟩
  have Z : mZ E s.heap s.heap [] G := ⟨hP, va_S.rf⟩
  have hl := lv_entry ([.ref (mad E (246)), .int (x1), .int (x2), .int (x3)]) (n := 4) (Nat.le_of_ble_eq_true rfl)
  rw [lg_entry_eq]
  generalize (lg_sl ([.ref (mad E (246)), .int (x1), .int (x2), .int (x3)]) ++ List.replicate (4 - (lg_sl ([.ref (mad E (246)), .int (x1), .int (x2), .int (x3)])).length) Slot.unset).toArray = ls at hl ⊢
  have hl : lv_has ls 4 [(0, .ref (mad E (246))), (1, .int (x1)), (2, .int (x2)), (3, .int (x3))] := hl
  unfold x6_putSegment at hT
  refine lv_aload_n hx hb dX6_putSegment_0 rfl (lv_at hl 0 rfl) ?_
  refine mx_get (v := .ref (mad E (247))) (ci := 6) (C := RX6) (T := TX6) (N := 11) X Z hc.i (hc.c _) rfl inlX6 0 (by decide) wd_7_23 rfl dX6_putSegment_1 ?_
  refine lv_iconst (v := (0 : Int32)) hx hb dX6_putSegment_4 (by decide) ?_
  refine lv_iconst (v := (3 : Int32)) hx hb dX6_putSegment_5 (by decide) ?_
  refine lv_iload_n hx hb dX6_putSegment_6 rfl (lv_at hl 1 rfl) ?_
  refine lv_imul hx hb dX6_putSegment_7 ?_
  refine lv_iadd hx hb dX6_putSegment_8 ?_
  refine lv_iconst (v := (0 : Int32)) hx hb dX6_putSegment_9 (by decide) ?_
  refine lv_iadd hx hb dX6_putSegment_10 ?_
  refine lv_iload_n hx hb dX6_putSegment_11 rfl (lv_at hl 2 rfl) ?_
  obtain ⟨h_1, hT⟩ := mx_chk hT
  obtain ⟨G_2, e_G_2, hT⟩ := mx_nm hT
  refine mx_iast X Z hc.z h_1 dX6_putSegment_12 (fun H locs Z => ?_)
  rw [e_G_2] at Z
  refine lv_aload_n hx hb dX6_putSegment_13 rfl (lv_at hl 0 rfl) ?_
  refine mx_get (v := .ref (mad E (247))) (ci := 6) (C := RX6) (T := TX6) (N := 11) X Z hc.i (hc.c _) rfl inlX6 0 (by decide) wd_7_23 rfl dX6_putSegment_14 ?_
  refine lv_iconst (v := (0 : Int32)) hx hb dX6_putSegment_17 (by decide) ?_
  refine lv_iconst (v := (3 : Int32)) hx hb dX6_putSegment_18 (by decide) ?_
  refine lv_iload_n hx hb dX6_putSegment_19 rfl (lv_at hl 1 rfl) ?_
  refine lv_imul hx hb dX6_putSegment_20 ?_
  refine lv_iadd hx hb dX6_putSegment_21 ?_
  refine lv_iconst (v := (1 : Int32)) hx hb dX6_putSegment_22 (by decide) ?_
  refine lv_iadd hx hb dX6_putSegment_23 ?_
  refine lv_iload_n hx hb dX6_putSegment_24 rfl (lv_at hl 3 rfl) ?_
  refine lv_if_eq (tgt := 32) hx hb dX6_putSegment_25 (by decide) (fun h_3 => ?_) (fun h_3 => ?_)
  · replace hT := mx_t hT h_3
    refine lv_iconst (v := (0 : Int32)) hx hb dX6_putSegment_32 (by decide) ?_
    obtain ⟨h_4, hT⟩ := mx_chk hT
    obtain ⟨G_5, e_G_5, hT⟩ := mx_nm hT
    refine mx_iast X Z hc.z h_4 dX6_putSegment_33 (fun H locs Z => ?_)
    rw [e_G_5] at Z
    refine lv_aload_n hx hb dX6_putSegment_34 rfl (lv_at hl 0 rfl) ?_
    refine mx_get (v := .ref (mad E (247))) (ci := 6) (C := RX6) (T := TX6) (N := 11) X Z hc.i (hc.c _) rfl inlX6 0 (by decide) wd_7_23 rfl dX6_putSegment_35 ?_
    refine lv_iconst (v := (0 : Int32)) hx hb dX6_putSegment_38 (by decide) ?_
    refine lv_iconst (v := (3 : Int32)) hx hb dX6_putSegment_39 (by decide) ?_
    refine lv_iload_n hx hb dX6_putSegment_40 rfl (lv_at hl 1 rfl) ?_
    refine lv_imul hx hb dX6_putSegment_41 ?_
    refine lv_iadd hx hb dX6_putSegment_42 ?_
    refine lv_iconst (v := (2 : Int32)) hx hb dX6_putSegment_43 (by decide) ?_
    refine lv_iadd hx hb dX6_putSegment_44 ?_
    refine lv_iconst (v := (0 : Int32)) hx hb dX6_putSegment_45 (by decide) ?_
    obtain ⟨h_6, hT⟩ := mx_chk hT
    obtain ⟨G_7, e_G_7, hT⟩ := mx_nm hT
    refine mx_iast X Z hc.z h_6 dX6_putSegment_46 (fun H locs Z => ?_)
    rw [e_G_7] at Z
    cases hT
    exact W.vret hx hb hr (fun t ht hW => mx_end Z t ht _) Z.2.2.2 dX6_putSegment_47
  · replace hT := mx_f hT h_3
    refine lv_iconst (v := (1 : Int32)) hx hb dX6_putSegment_28 (by decide) ?_
    refine lv_goto (tgt := 33) hx hb dX6_putSegment_29 (by decide) ?_
    obtain ⟨h_8, hT⟩ := mx_chk hT
    obtain ⟨G_9, e_G_9, hT⟩ := mx_nm hT
    refine mx_iast X Z hc.z h_8 dX6_putSegment_33 (fun H locs Z => ?_)
    rw [e_G_9] at Z
    refine lv_aload_n hx hb dX6_putSegment_34 rfl (lv_at hl 0 rfl) ?_
    refine mx_get (v := .ref (mad E (247))) (ci := 6) (C := RX6) (T := TX6) (N := 11) X Z hc.i (hc.c _) rfl inlX6 0 (by decide) wd_7_23 rfl dX6_putSegment_35 ?_
    refine lv_iconst (v := (0 : Int32)) hx hb dX6_putSegment_38 (by decide) ?_
    refine lv_iconst (v := (3 : Int32)) hx hb dX6_putSegment_39 (by decide) ?_
    refine lv_iload_n hx hb dX6_putSegment_40 rfl (lv_at hl 1 rfl) ?_
    refine lv_imul hx hb dX6_putSegment_41 ?_
    refine lv_iadd hx hb dX6_putSegment_42 ?_
    refine lv_iconst (v := (2 : Int32)) hx hb dX6_putSegment_43 (by decide) ?_
    refine lv_iadd hx hb dX6_putSegment_44 ?_
    refine lv_iconst (v := (0 : Int32)) hx hb dX6_putSegment_45 (by decide) ?_
    obtain ⟨h_10, hT⟩ := mx_chk hT
    obtain ⟨G_11, e_G_11, hT⟩ := mx_nm hT
    refine mx_iast X Z hc.z h_10 dX6_putSegment_46 (fun H locs Z => ?_)
    rw [e_G_11] at Z
    cases hT
    exact W.vret hx hb hr (fun t ht hW => mx_end Z t ht _) Z.2.2.2 dX6_putSegment_47
/-! PeatRailwayModel.isTrain -/
def x6_isTrain (x1 : Int32) (G : mM) : Option Int32 :=
  (x6_within x1 ((0 : Int32)) ((G 247 73) - ((1 : Int32))) G).bind fun q_1 =>
  mCk (mBl q_1) <|
  some (q_1)
theorem hd6_isTrain : yX6_isTrain.cls = RX6 ∧ yX6_isTrain.cls ≠ "java/lang/invoke/MethodHandle" ∧ yX6_isTrain.cls ≠ "java/lang/invoke/VarHandle" ∧ (parseMethodDescriptor yX6_isTrain.desc).map (fun d => d.parameters.length) = some 1 := by decide +kernel
set_option maxHeartbeats 4000000 in
set_option maxRecDepth 100000 in
theorem c6_isTrain (l : Launch) (E : mE) (hJ : mJ E) (hc : mMo E 246) (x1 : Int32) (G : mM) (q : Int32) (hT : x6_isTrain x1 G = some q) : mMet l E yX6_isTrain cX6_isTrain 2 (some .boolean) 1 22 [.ref (mad E (246)), .int (x1)] G (some (.int q)) G := by
  refine Met.ofW (cc := cX6_isTrain) (maxL := 2) (ret := (some .boolean)) (by decide) rfl ?_
  intro p e s m args below meth cd s₁ B hml hv
  obtain ⟨rfl, hP, hK, hS⟩ := hv
  have X := mx_entry (own := RX6) B hml hK hJ hS rfl
  have hx := X.1
  have hb := X.2.1
  have hown := X.2.2.2.1
  have hts := X.2.2.2.2.1
  have hr := B.returns
  have hlocks := B.notSynchronized
  have hR : 1 ≤ (headSpec (mWs yX6_isTrain cX6_isTrain 2 (some .boolean)) ({ frames := 1, cells := 0, slots := 0, locals := 22 })).room.frames ∧ 22 ≤ (headSpec (mWs yX6_isTrain cX6_isTrain 2 (some .boolean)) ({ frames := 1, cells := 0, slots := 0, locals := 22 })).room.locals := ⟨Nat.le_refl _, Nat.le_refl _⟩
  have Z : mZ E s.heap s.heap [] G := ⟨hP, va_S.rf⟩
  have hl := lv_entry ([.ref (mad E (246)), .int (x1)]) (n := 2) (Nat.le_of_ble_eq_true rfl)
  rw [lg_entry_eq]
  generalize (lg_sl ([.ref (mad E (246)), .int (x1)]) ++ List.replicate (2 - (lg_sl ([.ref (mad E (246)), .int (x1)])).length) Slot.unset).toArray = ls at hl ⊢
  have hl : lv_has ls 2 [(0, .ref (mad E (246))), (1, .int (x1))] := hl
  unfold x6_isTrain at hT
  refine lv_iload_n hx hb dX6_isTrain_0 rfl (lv_at hl 1 rfl) ?_
  refine lv_iconst (v := (0 : Int32)) hx hb dX6_isTrain_1 (by decide) ?_
  refine lv_aload_n hx hb dX6_isTrain_2 rfl (lv_at hl 0 rfl) ?_
  refine mx_get (v := .ref (mad E (247))) (ci := 6) (C := RX6) (T := TX6) (N := 11) X Z hc.i (hc.c _) rfl inlX6 0 (by decide) wd_7_23 rfl dX6_isTrain_3 ?_
  refine lv_bipush (v := (73 : Int32)) hx hb dX6_isTrain_6 (by decide) ?_
  refine mx_iald X Z hc.z (mx_lit (by decide)) dX6_isTrain_8 ?_
  refine mx_tops (s2 := [.int (G 247 73), .int ((0 : Int32)), .int (x1)]) rfl ?_
  refine lv_iconst (v := (1 : Int32)) hx hb dX6_isTrain_9 (by decide) ?_
  refine lv_isub hx hb dX6_isTrain_10 ?_
  obtain ⟨q_1, h_q_1, hT⟩ := mx_bind hT
  refine mx_callS (As := [.int (x1), .int ((0 : Int32)), .int ((G 247 73) - ((1 : Int32)))]) (rest := []) (st1 := [.int (q_1)]) X Z hl.1 (c6_within l E hJ _ _ _ _ _ h_q_1) wd_9_1 wd_9_2 wd_1_5 wd_9_3 hd6_within ⟨Nat.le_trans (by decide) hR.1, Nat.le_trans (by decide) hR.2⟩ ⟨Nat.zero_le _, Nat.zero_le _⟩ (Nat.le_of_ble_eq_true rfl) rfl rfl dX6_isTrain_11 (fun H locs Z => ?_)
  obtain ⟨h_2, hT⟩ := mx_chk hT
  cases hT
  exact W.zret hx hb hr (mBl.n h_2) (fun t ht hW => mx_end Z t ht _) Z.2.2.2 dX6_isTrain_14
/-! PeatRailwayModel.isSegment -/
def x6_isSegment (x1 : Int32) (G : mM) : Option Int32 :=
  (x6_within x1 ((0 : Int32)) ((G 247 72) - ((1 : Int32))) G).bind fun q_1 =>
  mCk (mBl q_1) <|
  some (q_1)
theorem hd6_isSegment : yX6_isSegment.cls = RX6 ∧ yX6_isSegment.cls ≠ "java/lang/invoke/MethodHandle" ∧ yX6_isSegment.cls ≠ "java/lang/invoke/VarHandle" ∧ (parseMethodDescriptor yX6_isSegment.desc).map (fun d => d.parameters.length) = some 1 := by decide +kernel
set_option maxHeartbeats 4000000 in
set_option maxRecDepth 100000 in
theorem c6_isSegment (l : Launch) (E : mE) (hJ : mJ E) (hc : mMo E 246) (x1 : Int32) (G : mM) (q : Int32) (hT : x6_isSegment x1 G = some q) : mMet l E yX6_isSegment cX6_isSegment 2 (some .boolean) 1 22 [.ref (mad E (246)), .int (x1)] G (some (.int q)) G := by
  refine Met.ofW (cc := cX6_isSegment) (maxL := 2) (ret := (some .boolean)) (by decide) rfl ?_
  intro p e s m args below meth cd s₁ B hml hv
  obtain ⟨rfl, hP, hK, hS⟩ := hv
  have X := mx_entry (own := RX6) B hml hK hJ hS rfl
  have hx := X.1
  have hb := X.2.1
  have hown := X.2.2.2.1
  have hts := X.2.2.2.2.1
  have hr := B.returns
  have hlocks := B.notSynchronized
  have hR : 1 ≤ (headSpec (mWs yX6_isSegment cX6_isSegment 2 (some .boolean)) ({ frames := 1, cells := 0, slots := 0, locals := 22 })).room.frames ∧ 22 ≤ (headSpec (mWs yX6_isSegment cX6_isSegment 2 (some .boolean)) ({ frames := 1, cells := 0, slots := 0, locals := 22 })).room.locals := ⟨Nat.le_refl _, Nat.le_refl _⟩
  have Z : mZ E s.heap s.heap [] G := ⟨hP, va_S.rf⟩
  have hl := lv_entry ([.ref (mad E (246)), .int (x1)]) (n := 2) (Nat.le_of_ble_eq_true rfl)
  rw [lg_entry_eq]
  generalize (lg_sl ([.ref (mad E (246)), .int (x1)]) ++ List.replicate (2 - (lg_sl ([.ref (mad E (246)), .int (x1)])).length) Slot.unset).toArray = ls at hl ⊢
  have hl : lv_has ls 2 [(0, .ref (mad E (246))), (1, .int (x1))] := hl
  unfold x6_isSegment at hT
  refine lv_iload_n hx hb dX6_isSegment_0 rfl (lv_at hl 1 rfl) ?_
  refine lv_iconst (v := (0 : Int32)) hx hb dX6_isSegment_1 (by decide) ?_
  refine lv_aload_n hx hb dX6_isSegment_2 rfl (lv_at hl 0 rfl) ?_
  refine mx_get (v := .ref (mad E (247))) (ci := 6) (C := RX6) (T := TX6) (N := 11) X Z hc.i (hc.c _) rfl inlX6 0 (by decide) wd_7_23 rfl dX6_isSegment_3 ?_
  refine lv_bipush (v := (72 : Int32)) hx hb dX6_isSegment_6 (by decide) ?_
  refine mx_iald X Z hc.z (mx_lit (by decide)) dX6_isSegment_8 ?_
  refine mx_tops (s2 := [.int (G 247 72), .int ((0 : Int32)), .int (x1)]) rfl ?_
  refine lv_iconst (v := (1 : Int32)) hx hb dX6_isSegment_9 (by decide) ?_
  refine lv_isub hx hb dX6_isSegment_10 ?_
  obtain ⟨q_1, h_q_1, hT⟩ := mx_bind hT
  refine mx_callS (As := [.int (x1), .int ((0 : Int32)), .int ((G 247 72) - ((1 : Int32)))]) (rest := []) (st1 := [.int (q_1)]) X Z hl.1 (c6_within l E hJ _ _ _ _ _ h_q_1) wd_9_1 wd_9_2 wd_1_5 wd_9_3 hd6_within ⟨Nat.le_trans (by decide) hR.1, Nat.le_trans (by decide) hR.2⟩ ⟨Nat.zero_le _, Nat.zero_le _⟩ (Nat.le_of_ble_eq_true rfl) rfl rfl dX6_isSegment_11 (fun H locs Z => ?_)
  obtain ⟨h_2, hT⟩ := mx_chk hT
  cases hT
  exact W.zret hx hb hr (mBl.n h_2) (fun t ht hW => mx_end Z t ht _) Z.2.2.2 dX6_isSegment_14
/-! PeatRailwayModel.copy -/
def x6_copy_L3 (y1 : Nat) (n1 : Nat) (y2 : Int32) (y3 : Nat) (n3 : Nat) (y4 : Int32) : Nat → Int32 → mM → Option (mM)
  | 0, _, _ => none
  | n + 1, w5, G =>
    if ((82 : Int32)) ≤ w5 then
      some (G)
    else
      mCk (mIn (y2 + w5) n1) <|
      mCk (mIn (y4 + w5) n3) <|
      mNm (up2 G y3 ((y4 + w5).toNatClampNeg) (G y1 ((y2 + w5).toNatClampNeg))) fun G_4 =>
      mNm (w5 + (1 : Int32)) fun v_5 =>
      x6_copy_L3 y1 n1 y2 y3 n3 y4 n v_5 G_4
def x6_copy (a1 : Nat) (n1 : Nat) (x2 : Int32) (a3 : Nat) (n3 : Nat) (x4 : Int32) (G : mM) : Option mM :=
  (x6_copy_L3 a1 n1 x2 a3 n3 x4 mFu ((0 : Int32)) G).bind fun q_6 =>
  some (q_6)
theorem hd6_copy : yX6_copy.cls = RX6 ∧ yX6_copy.cls ≠ "java/lang/invoke/MethodHandle" ∧ yX6_copy.cls ≠ "java/lang/invoke/VarHandle" ∧ (parseMethodDescriptor yX6_copy.desc).map (fun d => d.parameters.length) = some 4 := by decide +kernel
set_option maxHeartbeats 4000000 in
set_option maxRecDepth 100000 in
theorem k6_copy_3 {p : Program} {l : Launch} {e : Env} {R : Room} {s : State} {m : MethodId} {args : Array Value} {below : List Frame} {meth : Method} {cd : Code} {Q : State → Prop} {E : mE} (X : mX p s m args cd cX6_copy 6 RX6 E) (hR : 0 ≤ R.frames ∧ 0 ≤ R.locals) (hJ : mJ E) {y1 : Nat} {n1 : Nat} {y3 : Nat} {n3 : Nat} (hy1 : mAi E y1 1 n1) (hy3 : mAi E y3 1 n3) (y2 : Int32) (y4 : Int32) : ∀ (n : Nat) (w5 : Int32) (G : mM) (H : Heap) (locs : List Loc) (ls : Array Slot) (r : mM), x6_copy_L3 y1 n1 y2 y3 n3 y4 n w5 G = some r → mZ E s.heap H locs G → lv_has ls 6 [(1, .ref (mad E (y1))), (2, .int (y2)), (3, .ref (mad E (y3))), (4, .int (y4)), (5, .int (w5))] → (∀ (H : Heap) (locs : List Loc) (ls : Array Slot), mZ E s.heap H locs r → lv_has ls 6 [(1, .ref (mad E (y1))), (2, .int (y2)), (3, .ref (mad E (y3))), (4, .int (y4))] → W p l e R s m args below meth cd H locs 0 0 Q (F0 m 29 ls [])) → W p l e R s m args below meth cd H locs 0 0 Q (F0 m 3 ls []) := by
  have hx := X.1
  have hb := X.2.1
  have hown := X.2.2.2.1
  have hts := X.2.2.2.2.1
  intro n
  induction n with
  | zero =>
    intro w5 G H locs ls r hT
    rw [x6_copy_L3] at hT
    cases hT
  | succ n ih =>
    intro w5 G H locs ls r hT Z hl k0
    rw [x6_copy_L3] at hT
    refine lv_iload hx hb dX6_copy_3 (lv_at hl 4 rfl) ?_
    refine lv_bipush (v := (82 : Int32)) hx hb dX6_copy_5 (by decide) ?_
    refine lv_icmp_ge (tgt := 29) hx hb dX6_copy_7 (by decide) (fun h_1 => ?_) (fun h_1 => ?_)
    · replace hT := mx_t hT h_1
      cases hT
      exact k0 _ _ _ Z (lv_sub hl [0, 1, 2, 3] rfl)
    · replace hT := mx_f hT h_1
      refine lv_aload_n hx hb dX6_copy_10 rfl (lv_at hl 2 rfl) ?_
      refine lv_iload hx hb dX6_copy_11 (lv_at hl 3 rfl) ?_
      refine lv_iload hx hb dX6_copy_13 (lv_at hl 4 rfl) ?_
      refine lv_iadd hx hb dX6_copy_15 ?_
      refine lv_aload_n hx hb dX6_copy_16 rfl (lv_at hl 0 rfl) ?_
      refine lv_iload_n hx hb dX6_copy_17 rfl (lv_at hl 1 rfl) ?_
      refine lv_iload hx hb dX6_copy_18 (lv_at hl 4 rfl) ?_
      refine lv_iadd hx hb dX6_copy_20 ?_
      obtain ⟨h_2, hT⟩ := mx_chk hT
      refine mx_iald X Z hy1 h_2 dX6_copy_21 ?_
      obtain ⟨h_3, hT⟩ := mx_chk hT
      obtain ⟨G_4, e_G_4, hT⟩ := mx_nm hT
      refine mx_iast X Z hy3 h_3 dX6_copy_22 (fun H locs Z => ?_)
      rw [e_G_4] at Z
      obtain ⟨v_5, e_v_5, hT⟩ := mx_nm hT
      refine lv_iinc (v := v_5) (lv' := [(5, .int (v_5)), (1, .ref (mad E (y1))), (2, .int (y2)), (3, .ref (mad E (y3))), (4, .int (y4))]) hx hb dX6_copy_23 hl (k := 4) rfl (by rw [← e_v_5]; rfl) (by decide) rfl (fun ls hl => ?_)
      refine lv_goto (tgt := 3) hx hb dX6_copy_26 (by decide) ?_
      exact ih _ _ _ _ _ _ hT Z (lv_sub hl [1, 2, 3, 4, 0] rfl) k0
set_option maxHeartbeats 4000000 in
set_option maxRecDepth 100000 in
theorem c6_copy (l : Launch) (E : mE) (hJ : mJ E) {a1 : Nat} {n1 : Nat} {a3 : Nat} {n3 : Nat} (hc : mMo E 246) (ha1 : mAi E a1 1 n1) (ha3 : mAi E a3 1 n3) (x2 : Int32) (x4 : Int32) (G : mM) (q : mM) (hT : x6_copy a1 n1 x2 a3 n3 x4 G = some q) : mMet l E yX6_copy cX6_copy 6 none 0 0 [.ref (mad E (246)), .ref (mad E (a1)), .int (x2), .ref (mad E (a3)), .int (x4)] G (none) q := by
  refine Met.ofW (cc := cX6_copy) (maxL := 6) (ret := none) (by decide) rfl ?_
  intro p e s m args below meth cd s₁ B hml hv
  obtain ⟨rfl, hP, hK, hS⟩ := hv
  have X := mx_entry (own := RX6) B hml hK hJ hS rfl
  have hx := X.1
  have hb := X.2.1
  have hown := X.2.2.2.1
  have hts := X.2.2.2.2.1
  have hr := B.returns
  have hlocks := B.notSynchronized
  have hR : 0 ≤ (headSpec (mWs yX6_copy cX6_copy 6 none) ({ frames := 0, cells := 0, slots := 0, locals := 0 })).room.frames ∧ 0 ≤ (headSpec (mWs yX6_copy cX6_copy 6 none) ({ frames := 0, cells := 0, slots := 0, locals := 0 })).room.locals := ⟨Nat.le_refl _, Nat.le_refl _⟩
  have Z : mZ E s.heap s.heap [] G := ⟨hP, va_S.rf⟩
  have hl := lv_entry ([.ref (mad E (246)), .ref (mad E (a1)), .int (x2), .ref (mad E (a3)), .int (x4)]) (n := 6) (Nat.le_of_ble_eq_true rfl)
  rw [lg_entry_eq]
  generalize (lg_sl ([.ref (mad E (246)), .ref (mad E (a1)), .int (x2), .ref (mad E (a3)), .int (x4)]) ++ List.replicate (6 - (lg_sl ([.ref (mad E (246)), .ref (mad E (a1)), .int (x2), .ref (mad E (a3)), .int (x4)])).length) Slot.unset).toArray = ls at hl ⊢
  have hl : lv_has ls 6 [(0, .ref (mad E (246))), (1, .ref (mad E (a1))), (2, .int (x2)), (3, .ref (mad E (a3))), (4, .int (x4))] := hl
  unfold x6_copy at hT
  refine lv_iconst (v := (0 : Int32)) hx hb dX6_copy_0 (by decide) ?_
  refine lv_istore (lv' := [(5, .int ((0 : Int32))), (0, .ref (mad E (246))), (1, .ref (mad E (a1))), (2, .int (x2)), (3, .ref (mad E (a3))), (4, .int (x4))]) hx hb dX6_copy_1 hl (by decide) rfl (fun ls hl => ?_)
  obtain ⟨q_6, h_q_6, hT⟩ := mx_bind hT
  refine k6_copy_3 X hR hJ ha1 ha3 _ _ _ _ _ _ _ _ _ h_q_6 Z (lv_sub (l' := [(1, .ref (mad E (a1))), (2, .int (x2)), (3, .ref (mad E (a3))), (4, .int (x4)), (5, .int ((0 : Int32)))]) hl [2, 3, 4, 5, 0] rfl) (fun H locs ls Z hl => ?_)
  · cases hT
    exact W.vret hx hb hr (fun t ht hW => mx_end Z t ht _) Z.2.2.2 dX6_copy_29
/-! PeatRailwayModel.record -/
def x6_record_L12 : Nat → Int32 → mM → Option (mM)
  | 0, _, _ => none
  | n + 1, w1, G =>
    if ((656 : Int32)) ≤ w1 then
      some (G)
    else
      mCk (mIn w1 656) <|
      mCk (mIn (w1 - ((82 : Int32))) 656) <|
      mNm (up2 G 249 ((w1 - ((82 : Int32))).toNatClampNeg) (G 249 w1.toNatClampNeg)) fun G_7 =>
      mNm (w1 + (1 : Int32)) fun v_8 =>
      x6_record_L12 n v_8 G_7
def x6_record (G : mM) : Option mM :=
  if (G 246 2) = ((8 : Int32)) then
    (x6_record_L12 mFu ((82 : Int32)) G).bind fun q_9 =>
    mNm (up2 q_9 246 2 ((q_9 246 2) - ((1 : Int32)))) fun G_10 =>
    (x6_copy 247 82 ((0 : Int32)) 249 656 (((82 : Int32)) * (G_10 246 2)) G_10).bind fun q_11 =>
    mNm (up2 q_11 246 2 ((q_11 246 2) + ((1 : Int32)))) fun G_12 =>
    some (G_12)
  else
    (x6_copy 247 82 ((0 : Int32)) 249 656 (((82 : Int32)) * (G 246 2)) G).bind fun q_2 =>
    mNm (up2 q_2 246 2 ((q_2 246 2) + ((1 : Int32)))) fun G_3 =>
    some (G_3)
theorem hd6_record : yX6_record.cls = RX6 ∧ yX6_record.cls ≠ "java/lang/invoke/MethodHandle" ∧ yX6_record.cls ≠ "java/lang/invoke/VarHandle" ∧ (parseMethodDescriptor yX6_record.desc).map (fun d => d.parameters.length) = some 0 := by decide +kernel
set_option maxHeartbeats 4000000 in
set_option maxRecDepth 100000 in
theorem k6_record_12 {p : Program} {l : Launch} {e : Env} {R : Room} {s : State} {m : MethodId} {args : Array Value} {below : List Frame} {meth : Method} {cd : Code} {Q : State → Prop} {E : mE} (X : mX p s m args cd cX6_record 2 RX6 E) (hR : 1 ≤ R.frames ∧ 25 ≤ R.locals) (hJ : mJ E) (hy0 : mMo E 246) : ∀ (n : Nat) (w1 : Int32) (G : mM) (H : Heap) (locs : List Loc) (ls : Array Slot) (r : mM), x6_record_L12 n w1 G = some r → mZ E s.heap H locs G → lv_has ls 2 [(0, .ref (mad E (246))), (1, .int (w1))] → (∀ (H : Heap) (locs : List Loc) (ls : Array Slot), mZ E s.heap H locs r → lv_has ls 2 [(0, .ref (mad E (246)))] → W p l e R s m args below meth cd H locs 0 0 Q (F0 m 40 ls [])) → W p l e R s m args below meth cd H locs 0 0 Q (F0 m 12 ls []) := by
  have hx := X.1
  have hb := X.2.1
  have hown := X.2.2.2.1
  have hts := X.2.2.2.2.1
  intro n
  induction n with
  | zero =>
    intro w1 G H locs ls r hT
    rw [x6_record_L12] at hT
    cases hT
  | succ n ih =>
    intro w1 G H locs ls r hT Z hl k0
    rw [x6_record_L12] at hT
    refine lv_iload_n hx hb dX6_record_12 rfl (lv_at hl 1 rfl) ?_
    refine lv_sipush (v := (656 : Int32)) hx hb dX6_record_13 (by decide) ?_
    refine lv_icmp_ge (tgt := 40) hx hb dX6_record_16 (by decide) (fun h_4 => ?_) (fun h_4 => ?_)
    · replace hT := mx_t hT h_4
      cases hT
      exact k0 _ _ _ Z (lv_sub hl [0] rfl)
    · replace hT := mx_f hT h_4
      refine lv_aload_n hx hb dX6_record_19 rfl (lv_at hl 0 rfl) ?_
      refine mx_get (v := .ref (mad E (249))) (ci := 6) (C := RX6) (T := TX6) (N := 11) X Z hy0.i (hy0.c _) rfl inlX6 3 (by decide) wd_8_1 rfl dX6_record_20 ?_
      refine lv_iload_n hx hb dX6_record_23 rfl (lv_at hl 1 rfl) ?_
      refine lv_bipush (v := (82 : Int32)) hx hb dX6_record_24 (by decide) ?_
      refine lv_isub hx hb dX6_record_26 ?_
      refine lv_aload_n hx hb dX6_record_27 rfl (lv_at hl 0 rfl) ?_
      refine mx_get (v := .ref (mad E (249))) (ci := 6) (C := RX6) (T := TX6) (N := 11) X Z hy0.i (hy0.c _) rfl inlX6 3 (by decide) wd_8_1 rfl dX6_record_28 ?_
      refine lv_iload_n hx hb dX6_record_31 rfl (lv_at hl 1 rfl) ?_
      obtain ⟨h_5, hT⟩ := mx_chk hT
      refine mx_iald X Z hy0.history h_5 dX6_record_32 ?_
      obtain ⟨h_6, hT⟩ := mx_chk hT
      obtain ⟨G_7, e_G_7, hT⟩ := mx_nm hT
      refine mx_iast X Z hy0.history h_6 dX6_record_33 (fun H locs Z => ?_)
      rw [e_G_7] at Z
      obtain ⟨v_8, e_v_8, hT⟩ := mx_nm hT
      refine lv_iinc (v := v_8) (lv' := [(1, .int (v_8)), (0, .ref (mad E (246)))]) hx hb dX6_record_34 hl (k := 1) rfl (by rw [← e_v_8]; rfl) (by decide) rfl (fun ls hl => ?_)
      refine lv_goto (tgt := 12) hx hb dX6_record_37 (by decide) ?_
      exact ih _ _ _ _ _ _ hT Z (lv_sub hl [1, 0] rfl) k0
set_option maxHeartbeats 4000000 in
set_option maxRecDepth 100000 in
theorem c6_record (l : Launch) (E : mE) (hJ : mJ E) (hc : mMo E 246) (G : mM) (q : mM) (hT : x6_record G = some q) : mMet l E yX6_record cX6_record 2 none 1 25 [.ref (mad E (246))] G (none) q := by
  refine Met.ofW (cc := cX6_record) (maxL := 2) (ret := none) (by decide) rfl ?_
  intro p e s m args below meth cd s₁ B hml hv
  obtain ⟨rfl, hP, hK, hS⟩ := hv
  have X := mx_entry (own := RX6) B hml hK hJ hS rfl
  have hx := X.1
  have hb := X.2.1
  have hown := X.2.2.2.1
  have hts := X.2.2.2.2.1
  have hr := B.returns
  have hlocks := B.notSynchronized
  have hR : 1 ≤ (headSpec (mWs yX6_record cX6_record 2 none) ({ frames := 1, cells := 0, slots := 0, locals := 25 })).room.frames ∧ 25 ≤ (headSpec (mWs yX6_record cX6_record 2 none) ({ frames := 1, cells := 0, slots := 0, locals := 25 })).room.locals := ⟨Nat.le_refl _, Nat.le_refl _⟩
  have Z : mZ E s.heap s.heap [] G := ⟨hP, va_S.rf⟩
  have hl := lv_entry ([.ref (mad E (246))]) (n := 2) (Nat.le_of_ble_eq_true rfl)
  rw [lg_entry_eq]
  generalize (lg_sl ([.ref (mad E (246))]) ++ List.replicate (2 - (lg_sl ([.ref (mad E (246))])).length) Slot.unset).toArray = ls at hl ⊢
  have hl : lv_has ls 2 [(0, .ref (mad E (246)))] := hl
  unfold x6_record at hT
  refine lv_aload_n hx hb dX6_record_0 rfl (lv_at hl 0 rfl) ?_
  refine mx_get (v := .int (G 246 2)) (ci := 6) (C := RX6) (T := TX6) (N := 11) X Z hc.i (hc.c _) rfl inlX6 2 (by decide) wd_13_2 rfl dX6_record_1 ?_
  refine lv_bipush (v := (8 : Int32)) hx hb dX6_record_4 (by decide) ?_
  refine lv_icmp_ne (tgt := 50) hx hb dX6_record_6 (by decide) (fun h_1 => ?_) (fun h_1 => ?_)
  · replace hT := mx_f hT h_1
    refine lv_aload_n hx hb dX6_record_50 rfl (lv_at hl 0 rfl) ?_
    refine lv_aload_n hx hb dX6_record_51 rfl (lv_at hl 0 rfl) ?_
    refine mx_get (v := .ref (mad E (247))) (ci := 6) (C := RX6) (T := TX6) (N := 11) X Z hc.i (hc.c _) rfl inlX6 0 (by decide) wd_7_23 rfl dX6_record_52 ?_
    refine lv_iconst (v := (0 : Int32)) hx hb dX6_record_55 (by decide) ?_
    refine lv_aload_n hx hb dX6_record_56 rfl (lv_at hl 0 rfl) ?_
    refine mx_get (v := .ref (mad E (249))) (ci := 6) (C := RX6) (T := TX6) (N := 11) X Z hc.i (hc.c _) rfl inlX6 3 (by decide) wd_8_1 rfl dX6_record_57 ?_
    refine lv_bipush (v := (82 : Int32)) hx hb dX6_record_60 (by decide) ?_
    refine lv_aload_n hx hb dX6_record_62 rfl (lv_at hl 0 rfl) ?_
    refine mx_get (v := .int (G 246 2)) (ci := 6) (C := RX6) (T := TX6) (N := 11) X Z hc.i (hc.c _) rfl inlX6 2 (by decide) wd_13_2 rfl dX6_record_63 ?_
    refine lv_imul hx hb dX6_record_66 ?_
    obtain ⟨q_2, h_q_2, hT⟩ := mx_bind hT
    refine mx_callV (As := [.ref (mad E (247)), .int ((0 : Int32)), .ref (mad E (249)), .int (((82 : Int32)) * (G 246 2))]) (rest := []) (st1 := []) (C := RX6) (T := TX6) (N := 11) (ci := 6) X Z hl.1 (c6_copy l E hJ hc hc.z hc.history _ _ _ _ h_q_2) wd_13_3 wd_13_4 wd_13_5 wd_1_5 wd_13_6 hd6_copy ⟨Nat.le_trans (by decide) hR.1, Nat.le_trans (by decide) hR.2⟩ ⟨Nat.zero_le _, Nat.zero_le _⟩ hc.i (hc.c _) rfl (Nat.le_of_ble_eq_true rfl) rfl rfl dX6_record_67 (fun H locs Z => ?_)
    refine lv_aload_n hx hb dX6_record_70 rfl (lv_at hl 0 rfl) ?_
    refine lv_dup hx hb dX6_record_71 rfl ?_
    refine mx_get (v := .int (q_2 246 2)) (ci := 6) (C := RX6) (T := TX6) (N := 11) X Z hc.i (hc.c _) rfl inlX6 2 (by decide) wd_13_2 rfl dX6_record_72 ?_
    refine lv_iconst (v := (1 : Int32)) hx hb dX6_record_75 (by decide) ?_
    refine lv_iadd hx hb dX6_record_76 ?_
    obtain ⟨G_3, e_G_3, hT⟩ := mx_nm hT
    refine mx_put (ci := 6) (C := RX6) (T := TX6) (N := 11) X Z hc.i (hc.c _) rfl inlX6 tyX6 tyX6_ok nmX6 2 (by decide) wd_13_2 rfl rfl rfl (by show 2 < 11; decide) ((hc.c _).trans (congrArg (fun z => Sum.inr (6, z)) (sp_Mo_2 (mad E) _ _ _))) dX6_record_77 (fun H locs Z => ?_)
    rw [e_G_3] at Z
    cases hT
    exact W.vret hx hb hr (fun t ht hW => mx_end Z t ht _) Z.2.2.2 dX6_record_80
  · replace hT := mx_t hT h_1
    refine lv_bipush (v := (82 : Int32)) hx hb dX6_record_9 (by decide) ?_
    refine lv_istore_n (lv' := [(1, .int ((82 : Int32))), (0, .ref (mad E (246)))]) hx hb dX6_record_11 rfl hl (by decide) rfl (fun ls hl => ?_)
    obtain ⟨q_9, h_q_9, hT⟩ := mx_bind hT
    refine k6_record_12 X hR hJ hc  _ _ _ _ _ _ _ h_q_9 Z (lv_sub (l' := [(0, .ref (mad E (246))), (1, .int ((82 : Int32)))]) hl [1, 0] rfl) (fun H locs ls Z hl => ?_)
    · refine lv_aload_n hx hb dX6_record_40 rfl (lv_at hl 0 rfl) ?_
      refine lv_dup hx hb dX6_record_41 rfl ?_
      refine mx_get (v := .int (q_9 246 2)) (ci := 6) (C := RX6) (T := TX6) (N := 11) X Z hc.i (hc.c _) rfl inlX6 2 (by decide) wd_13_2 rfl dX6_record_42 ?_
      refine lv_iconst (v := (1 : Int32)) hx hb dX6_record_45 (by decide) ?_
      refine lv_isub hx hb dX6_record_46 ?_
      obtain ⟨G_10, e_G_10, hT⟩ := mx_nm hT
      refine mx_put (ci := 6) (C := RX6) (T := TX6) (N := 11) X Z hc.i (hc.c _) rfl inlX6 tyX6 tyX6_ok nmX6 2 (by decide) wd_13_2 rfl rfl rfl (by show 2 < 11; decide) ((hc.c _).trans (congrArg (fun z => Sum.inr (6, z)) (sp_Mo_2 (mad E) _ _ _))) dX6_record_47 (fun H locs Z => ?_)
      rw [e_G_10] at Z
      refine lv_aload_n hx hb dX6_record_50 rfl (lv_at hl 0 rfl) ?_
      refine lv_aload_n hx hb dX6_record_51 rfl (lv_at hl 0 rfl) ?_
      refine mx_get (v := .ref (mad E (247))) (ci := 6) (C := RX6) (T := TX6) (N := 11) X Z hc.i (hc.c _) rfl inlX6 0 (by decide) wd_7_23 rfl dX6_record_52 ?_
      refine lv_iconst (v := (0 : Int32)) hx hb dX6_record_55 (by decide) ?_
      refine lv_aload_n hx hb dX6_record_56 rfl (lv_at hl 0 rfl) ?_
      refine mx_get (v := .ref (mad E (249))) (ci := 6) (C := RX6) (T := TX6) (N := 11) X Z hc.i (hc.c _) rfl inlX6 3 (by decide) wd_8_1 rfl dX6_record_57 ?_
      refine lv_bipush (v := (82 : Int32)) hx hb dX6_record_60 (by decide) ?_
      refine lv_aload_n hx hb dX6_record_62 rfl (lv_at hl 0 rfl) ?_
      refine mx_get (v := .int (G_10 246 2)) (ci := 6) (C := RX6) (T := TX6) (N := 11) X Z hc.i (hc.c _) rfl inlX6 2 (by decide) wd_13_2 rfl dX6_record_63 ?_
      refine lv_imul hx hb dX6_record_66 ?_
      obtain ⟨q_11, h_q_11, hT⟩ := mx_bind hT
      refine mx_callV (As := [.ref (mad E (247)), .int ((0 : Int32)), .ref (mad E (249)), .int (((82 : Int32)) * (G_10 246 2))]) (rest := []) (st1 := []) (C := RX6) (T := TX6) (N := 11) (ci := 6) X Z hl.1 (c6_copy l E hJ hc hc.z hc.history _ _ _ _ h_q_11) wd_13_3 wd_13_4 wd_13_5 wd_1_5 wd_13_6 hd6_copy ⟨Nat.le_trans (by decide) hR.1, Nat.le_trans (by decide) hR.2⟩ ⟨Nat.zero_le _, Nat.zero_le _⟩ hc.i (hc.c _) rfl (Nat.le_of_ble_eq_true rfl) rfl rfl dX6_record_67 (fun H locs Z => ?_)
      refine lv_aload_n hx hb dX6_record_70 rfl (lv_at hl 0 rfl) ?_
      refine lv_dup hx hb dX6_record_71 rfl ?_
      refine mx_get (v := .int (q_11 246 2)) (ci := 6) (C := RX6) (T := TX6) (N := 11) X Z hc.i (hc.c _) rfl inlX6 2 (by decide) wd_13_2 rfl dX6_record_72 ?_
      refine lv_iconst (v := (1 : Int32)) hx hb dX6_record_75 (by decide) ?_
      refine lv_iadd hx hb dX6_record_76 ?_
      obtain ⟨G_12, e_G_12, hT⟩ := mx_nm hT
      refine mx_put (ci := 6) (C := RX6) (T := TX6) (N := 11) X Z hc.i (hc.c _) rfl inlX6 tyX6 tyX6_ok nmX6 2 (by decide) wd_13_2 rfl rfl rfl (by show 2 < 11; decide) ((hc.c _).trans (congrArg (fun z => Sum.inr (6, z)) (sp_Mo_2 (mad E) _ _ _))) dX6_record_77 (fun H locs Z => ?_)
      rw [e_G_12] at Z
      cases hT
      exact W.vret hx hb hr (fun t ht hW => mx_end Z t ht _) Z.2.2.2 dX6_record_80
/-! PeatRailwayModel.type -/
def x6_type (x1 : Int32) (G : mM) : Option (Int32 × mM) :=
  (x6_within x1 ((32 : Int32)) ((126 : Int32)) G).bind fun q_1 =>
  if q_1 = 0 then
    some ((-2 : Int32), G)
  else
    if (G 246 6) = ((40 : Int32)) then
      some ((-4 : Int32), G)
    else
      mCk (mIn (G 246 6) 40) <|
      mNm (up2 G 251 ((G 246 6).toNatClampNeg) x1) fun G_5 =>
      mNm (up2 G_5 246 6 ((G_5 246 6) + ((1 : Int32)))) fun G_6 =>
      some (G_6 246 6, G_6)
theorem hd6_type : yX6_type.cls = RX6 ∧ yX6_type.cls ≠ "java/lang/invoke/MethodHandle" ∧ yX6_type.cls ≠ "java/lang/invoke/VarHandle" ∧ (parseMethodDescriptor yX6_type.desc).map (fun d => d.parameters.length) = some 1 := by decide +kernel
set_option maxHeartbeats 4000000 in
set_option maxRecDepth 100000 in
theorem c6_type (l : Launch) (E : mE) (hJ : mJ E) (hc : mMo E 246) (x1 : Int32) (G : mM) (q : (Int32 × mM)) (hT : x6_type x1 G = some q) : mMet l E yX6_type cX6_type 2 (some .int) 1 22 [.ref (mad E (246)), .int (x1)] G (some (.int q.1)) q.2 := by
  refine Met.ofW (cc := cX6_type) (maxL := 2) (ret := (some .int)) (by decide) rfl ?_
  intro p e s m args below meth cd s₁ B hml hv
  obtain ⟨rfl, hP, hK, hS⟩ := hv
  have X := mx_entry (own := RX6) B hml hK hJ hS rfl
  have hx := X.1
  have hb := X.2.1
  have hown := X.2.2.2.1
  have hts := X.2.2.2.2.1
  have hr := B.returns
  have hlocks := B.notSynchronized
  have hR : 1 ≤ (headSpec (mWs yX6_type cX6_type 2 (some .int)) ({ frames := 1, cells := 0, slots := 0, locals := 22 })).room.frames ∧ 22 ≤ (headSpec (mWs yX6_type cX6_type 2 (some .int)) ({ frames := 1, cells := 0, slots := 0, locals := 22 })).room.locals := ⟨Nat.le_refl _, Nat.le_refl _⟩
  have Z : mZ E s.heap s.heap [] G := ⟨hP, va_S.rf⟩
  have hl := lv_entry ([.ref (mad E (246)), .int (x1)]) (n := 2) (Nat.le_of_ble_eq_true rfl)
  rw [lg_entry_eq]
  generalize (lg_sl ([.ref (mad E (246)), .int (x1)]) ++ List.replicate (2 - (lg_sl ([.ref (mad E (246)), .int (x1)])).length) Slot.unset).toArray = ls at hl ⊢
  have hl : lv_has ls 2 [(0, .ref (mad E (246))), (1, .int (x1))] := hl
  unfold x6_type at hT
  refine lv_iload_n hx hb dX6_type_0 rfl (lv_at hl 1 rfl) ?_
  refine lv_bipush (v := (32 : Int32)) hx hb dX6_type_1 (by decide) ?_
  refine lv_bipush (v := (126 : Int32)) hx hb dX6_type_3 (by decide) ?_
  obtain ⟨q_1, h_q_1, hT⟩ := mx_bind hT
  refine mx_callS (As := [.int (x1), .int ((32 : Int32)), .int ((126 : Int32))]) (rest := []) (st1 := [.int (q_1)]) X Z hl.1 (c6_within l E hJ _ _ _ _ _ h_q_1) wd_9_1 wd_9_2 wd_1_5 wd_9_3 hd6_within ⟨Nat.le_trans (by decide) hR.1, Nat.le_trans (by decide) hR.2⟩ ⟨Nat.zero_le _, Nat.zero_le _⟩ (Nat.le_of_ble_eq_true rfl) rfl rfl dX6_type_5 (fun H locs Z => ?_)
  refine lv_if_ne (tgt := 14) hx hb dX6_type_8 (by decide) (fun h_2 => ?_) (fun h_2 => ?_)
  · replace hT := mx_f hT h_2
    refine lv_aload_n hx hb dX6_type_14 rfl (lv_at hl 0 rfl) ?_
    refine mx_get (v := .int (G 246 6)) (ci := 6) (C := RX6) (T := TX6) (N := 11) X Z hc.i (hc.c _) rfl inlX6 6 (by decide) wd_9_0 rfl dX6_type_15 ?_
    refine lv_bipush (v := (40 : Int32)) hx hb dX6_type_18 (by decide) ?_
    refine lv_icmp_ne (tgt := 26) hx hb dX6_type_20 (by decide) (fun h_3 => ?_) (fun h_3 => ?_)
    · replace hT := mx_f hT h_3
      refine lv_aload_n hx hb dX6_type_26 rfl (lv_at hl 0 rfl) ?_
      refine mx_get (v := .ref (mad E (251))) (ci := 6) (C := RX6) (T := TX6) (N := 11) X Z hc.i (hc.c _) rfl inlX6 7 (by decide) wd_8_3 rfl dX6_type_27 ?_
      refine lv_aload_n hx hb dX6_type_30 rfl (lv_at hl 0 rfl) ?_
      refine mx_get (v := .int (G 246 6)) (ci := 6) (C := RX6) (T := TX6) (N := 11) X Z hc.i (hc.c _) rfl inlX6 6 (by decide) wd_9_0 rfl dX6_type_31 ?_
      refine lv_iload_n hx hb dX6_type_34 rfl (lv_at hl 1 rfl) ?_
      obtain ⟨h_4, hT⟩ := mx_chk hT
      obtain ⟨G_5, e_G_5, hT⟩ := mx_nm hT
      refine mx_iast X Z hc.text h_4 dX6_type_35 (fun H locs Z => ?_)
      rw [e_G_5] at Z
      refine lv_aload_n hx hb dX6_type_36 rfl (lv_at hl 0 rfl) ?_
      refine lv_dup hx hb dX6_type_37 rfl ?_
      refine mx_get (v := .int (G_5 246 6)) (ci := 6) (C := RX6) (T := TX6) (N := 11) X Z hc.i (hc.c _) rfl inlX6 6 (by decide) wd_9_0 rfl dX6_type_38 ?_
      refine lv_iconst (v := (1 : Int32)) hx hb dX6_type_41 (by decide) ?_
      refine lv_iadd hx hb dX6_type_42 ?_
      obtain ⟨G_6, e_G_6, hT⟩ := mx_nm hT
      refine mx_put (ci := 6) (C := RX6) (T := TX6) (N := 11) X Z hc.i (hc.c _) rfl inlX6 tyX6 tyX6_ok nmX6 6 (by decide) wd_9_0 rfl rfl rfl (by show 6 < 11; decide) ((hc.c _).trans (congrArg (fun z => Sum.inr (6, z)) (sp_Mo_6 (mad E) _ _ _))) dX6_type_43 (fun H locs Z => ?_)
      rw [e_G_6] at Z
      refine lv_aload_n hx hb dX6_type_46 rfl (lv_at hl 0 rfl) ?_
      refine mx_get (v := .int (G_6 246 6)) (ci := 6) (C := RX6) (T := TX6) (N := 11) X Z hc.i (hc.c _) rfl inlX6 6 (by decide) wd_9_0 rfl dX6_type_47 ?_
      cases hT
      exact W.iret hx hb hr (fun t ht hW => mx_end Z t ht _) Z.2.2.2 dX6_type_50
    · replace hT := mx_t hT h_3
      refine lv_bipush (v := (-4 : Int32)) hx hb dX6_type_23 (by decide) ?_
      cases hT
      exact W.iret hx hb hr (fun t ht hW => mx_end Z t ht _) Z.2.2.2 dX6_type_25
  · replace hT := mx_t hT h_2
    refine lv_bipush (v := (-2 : Int32)) hx hb dX6_type_11 (by decide) ?_
    cases hT
    exact W.iret hx hb hr (fun t ht hW => mx_end Z t ht _) Z.2.2.2 dX6_type_13
/-! PeatRailwayModel.clear -/
def x6_clear (G : mM) : Option (Int32 × mM) :=
  mNm (G 246 6) fun v_1 =>
  mNm (up2 G 246 6 ((0 : Int32))) fun G_2 =>
  some (v_1, G_2)
theorem hd6_clear : yX6_clear.cls = RX6 ∧ yX6_clear.cls ≠ "java/lang/invoke/MethodHandle" ∧ yX6_clear.cls ≠ "java/lang/invoke/VarHandle" ∧ (parseMethodDescriptor yX6_clear.desc).map (fun d => d.parameters.length) = some 0 := by decide +kernel
set_option maxHeartbeats 4000000 in
set_option maxRecDepth 100000 in
theorem c6_clear (l : Launch) (E : mE) (hJ : mJ E) (hc : mMo E 246) (G : mM) (q : (Int32 × mM)) (hT : x6_clear G = some q) : mMet l E yX6_clear cX6_clear 2 (some .int) 0 0 [.ref (mad E (246))] G (some (.int q.1)) q.2 := by
  refine Met.ofW (cc := cX6_clear) (maxL := 2) (ret := (some .int)) (by decide) rfl ?_
  intro p e s m args below meth cd s₁ B hml hv
  obtain ⟨rfl, hP, hK, hS⟩ := hv
  have X := mx_entry (own := RX6) B hml hK hJ hS rfl
  have hx := X.1
  have hb := X.2.1
  have hown := X.2.2.2.1
  have hts := X.2.2.2.2.1
  have hr := B.returns
  have hlocks := B.notSynchronized
  have hR : 0 ≤ (headSpec (mWs yX6_clear cX6_clear 2 (some .int)) ({ frames := 0, cells := 0, slots := 0, locals := 0 })).room.frames ∧ 0 ≤ (headSpec (mWs yX6_clear cX6_clear 2 (some .int)) ({ frames := 0, cells := 0, slots := 0, locals := 0 })).room.locals := ⟨Nat.le_refl _, Nat.le_refl _⟩
  have Z : mZ E s.heap s.heap [] G := ⟨hP, va_S.rf⟩
  have hl := lv_entry ([.ref (mad E (246))]) (n := 2) (Nat.le_of_ble_eq_true rfl)
  rw [lg_entry_eq]
  generalize (lg_sl ([.ref (mad E (246))]) ++ List.replicate (2 - (lg_sl ([.ref (mad E (246))])).length) Slot.unset).toArray = ls at hl ⊢
  have hl : lv_has ls 2 [(0, .ref (mad E (246)))] := hl
  unfold x6_clear at hT
  refine lv_aload_n hx hb dX6_clear_0 rfl (lv_at hl 0 rfl) ?_
  refine mx_get (v := .int (G 246 6)) (ci := 6) (C := RX6) (T := TX6) (N := 11) X Z hc.i (hc.c _) rfl inlX6 6 (by decide) wd_9_0 rfl dX6_clear_1 ?_
  obtain ⟨v_1, e_v_1, hT⟩ := mx_nm hT
  refine mx_tops (congrArg (fun z => (.int (z) :: [] : List Value)) e_v_1) ?_
  refine lv_istore_n (lv' := [(1, .int (v_1)), (0, .ref (mad E (246)))]) hx hb dX6_clear_4 rfl hl (by decide) rfl (fun ls hl => ?_)
  refine lv_aload_n hx hb dX6_clear_5 rfl (lv_at hl 1 rfl) ?_
  refine lv_iconst (v := (0 : Int32)) hx hb dX6_clear_6 (by decide) ?_
  obtain ⟨G_2, e_G_2, hT⟩ := mx_nm hT
  refine mx_put (ci := 6) (C := RX6) (T := TX6) (N := 11) X Z hc.i (hc.c _) rfl inlX6 tyX6 tyX6_ok nmX6 6 (by decide) wd_9_0 rfl rfl rfl (by show 6 < 11; decide) ((hc.c _).trans (congrArg (fun z => Sum.inr (6, z)) (sp_Mo_6 (mad E) _ _ _))) dX6_clear_7 (fun H locs Z => ?_)
  rw [e_G_2] at Z
  refine lv_iload_n hx hb dX6_clear_10 rfl (lv_at hl 0 rfl) ?_
  cases hT
  exact W.iret hx hb hr (fun t ht hW => mx_end Z t ht _) Z.2.2.2 dX6_clear_11
/-! PeatRailwayModel.takes -/
def x6_takes (x1 : Int32) (G : mM) : Option (Int32 × mM) :=
  if (G 246 9) = 0 then
    (x6_within x1 ((48 : Int32)) ((57 : Int32)) G).bind fun q_27 =>
    if q_27 = 0 then
      mNm (up2 G 246 8 ((G 246 8) + ((0 : Int32)))) fun G_29 =>
      if q_27 = 0 then
        mNm (up2 G_29 246 9 ((0 : Int32))) fun G_31 =>
        mCk (mBl q_27) <|
        some (q_27, G_31)
      else
        mNm (up2 G_29 246 9 ((1 : Int32))) fun G_33 =>
        mCk (mBl q_27) <|
        some (q_27, G_33)
    else
      mNm (up2 G 246 8 ((G 246 8) + ((1 : Int32)))) fun G_35 =>
      if q_27 = 0 then
        mNm (up2 G_35 246 9 ((0 : Int32))) fun G_37 =>
        mCk (mBl q_27) <|
        some (q_27, G_37)
      else
        mNm (up2 G_35 246 9 ((1 : Int32))) fun G_39 =>
        mCk (mBl q_27) <|
        some (q_27, G_39)
  else
    if x1 = ((112 : Int32)) then
      if (G 246 9) = ((1 : Int32)) then
        mNm (up2 G 246 9 ((2 : Int32))) fun G_26 =>
        some ((1 : Int32), G_26)
      else
        if x1 = ((44 : Int32)) then
          if ((12 : Int32)) ≤ (G 246 8) then
            if ((0 : Int32)) = 0 then
              mNm (up2 G 246 9 (G 246 9)) fun G_21 =>
              some ((0 : Int32), G_21)
            else
              mNm (up2 G 246 9 ((0 : Int32))) fun G_22 =>
              some ((0 : Int32), G_22)
          else
            if ((1 : Int32)) = 0 then
              mNm (up2 G 246 9 (G 246 9)) fun G_24 =>
              some ((1 : Int32), G_24)
            else
              mNm (up2 G 246 9 ((0 : Int32))) fun G_25 =>
              some ((1 : Int32), G_25)
        else
          if ((0 : Int32)) = 0 then
            mNm (up2 G 246 9 (G 246 9)) fun G_17 =>
            some ((0 : Int32), G_17)
          else
            mNm (up2 G 246 9 ((0 : Int32))) fun G_18 =>
            some ((0 : Int32), G_18)
    else
      if x1 = ((44 : Int32)) then
        if ((12 : Int32)) ≤ (G 246 8) then
          if ((0 : Int32)) = 0 then
            mNm (up2 G 246 9 (G 246 9)) fun G_9 =>
            some ((0 : Int32), G_9)
          else
            mNm (up2 G 246 9 ((0 : Int32))) fun G_10 =>
            some ((0 : Int32), G_10)
        else
          if ((1 : Int32)) = 0 then
            mNm (up2 G 246 9 (G 246 9)) fun G_12 =>
            some ((1 : Int32), G_12)
          else
            mNm (up2 G 246 9 ((0 : Int32))) fun G_13 =>
            some ((1 : Int32), G_13)
      else
        if ((0 : Int32)) = 0 then
          mNm (up2 G 246 9 (G 246 9)) fun G_5 =>
          some ((0 : Int32), G_5)
        else
          mNm (up2 G 246 9 ((0 : Int32))) fun G_6 =>
          some ((0 : Int32), G_6)
theorem hd6_takes : yX6_takes.cls = RX6 ∧ yX6_takes.cls ≠ "java/lang/invoke/MethodHandle" ∧ yX6_takes.cls ≠ "java/lang/invoke/VarHandle" ∧ (parseMethodDescriptor yX6_takes.desc).map (fun d => d.parameters.length) = some 1 := by decide +kernel
set_option maxHeartbeats 4000000 in
set_option maxRecDepth 100000 in
theorem c6_takes (l : Launch) (E : mE) (hJ : mJ E) (hc : mMo E 246) (x1 : Int32) (G : mM) (q : (Int32 × mM)) (hT : x6_takes x1 G = some q) : mMet l E yX6_takes cX6_takes 3 (some .boolean) 1 22 [.ref (mad E (246)), .int (x1)] G (some (.int q.1)) q.2 := by
  refine Met.ofW (cc := cX6_takes) (maxL := 3) (ret := (some .boolean)) (by decide) rfl ?_
  intro p e s m args below meth cd s₁ B hml hv
  obtain ⟨rfl, hP, hK, hS⟩ := hv
  have X := mx_entry (own := RX6) B hml hK hJ hS rfl
  have hx := X.1
  have hb := X.2.1
  have hown := X.2.2.2.1
  have hts := X.2.2.2.2.1
  have hr := B.returns
  have hlocks := B.notSynchronized
  have hR : 1 ≤ (headSpec (mWs yX6_takes cX6_takes 3 (some .boolean)) ({ frames := 1, cells := 0, slots := 0, locals := 22 })).room.frames ∧ 22 ≤ (headSpec (mWs yX6_takes cX6_takes 3 (some .boolean)) ({ frames := 1, cells := 0, slots := 0, locals := 22 })).room.locals := ⟨Nat.le_refl _, Nat.le_refl _⟩
  have Z : mZ E s.heap s.heap [] G := ⟨hP, va_S.rf⟩
  have hl := lv_entry ([.ref (mad E (246)), .int (x1)]) (n := 3) (Nat.le_of_ble_eq_true rfl)
  rw [lg_entry_eq]
  generalize (lg_sl ([.ref (mad E (246)), .int (x1)]) ++ List.replicate (3 - (lg_sl ([.ref (mad E (246)), .int (x1)])).length) Slot.unset).toArray = ls at hl ⊢
  have hl : lv_has ls 3 [(0, .ref (mad E (246))), (1, .int (x1))] := hl
  unfold x6_takes at hT
  refine lv_aload_n hx hb dX6_takes_0 rfl (lv_at hl 0 rfl) ?_
  refine mx_get (v := .int (G 246 9)) (ci := 6) (C := RX6) (T := TX6) (N := 11) X Z hc.i (hc.c _) rfl inlX6 9 (by decide) wd_10_5 rfl dX6_takes_1 ?_
  refine lv_if_ne (tgt := 49) hx hb dX6_takes_4 (by decide) (fun h_1 => ?_) (fun h_1 => ?_)
  · replace hT := mx_f hT h_1
    refine lv_iload_n hx hb dX6_takes_49 rfl (lv_at hl 1 rfl) ?_
    refine lv_bipush (v := (112 : Int32)) hx hb dX6_takes_50 (by decide) ?_
    refine lv_icmp_ne (tgt := 70) hx hb dX6_takes_52 (by decide) (fun h_2 => ?_) (fun h_2 => ?_)
    · replace hT := mx_f hT h_2
      refine lv_iload_n hx hb dX6_takes_70 rfl (lv_at hl 1 rfl) ?_
      refine lv_bipush (v := (44 : Int32)) hx hb dX6_takes_71 (by decide) ?_
      refine lv_icmp_ne (tgt := 89) hx hb dX6_takes_73 (by decide) (fun h_3 => ?_) (fun h_3 => ?_)
      · replace hT := mx_f hT h_3
        refine lv_iconst (v := (0 : Int32)) hx hb dX6_takes_89 (by decide) ?_
        refine lv_istore_n (lv' := [(2, .int ((0 : Int32))), (0, .ref (mad E (246))), (1, .int (x1))]) hx hb dX6_takes_90 rfl hl (by decide) rfl (fun ls hl => ?_)
        refine lv_aload_n hx hb dX6_takes_91 rfl (lv_at hl 1 rfl) ?_
        refine lv_iload_n hx hb dX6_takes_92 rfl (lv_at hl 0 rfl) ?_
        refine lv_if_eq (tgt := 100) hx hb dX6_takes_93 (by decide) (fun h_4 => ?_) (fun h_4 => ?_)
        · replace hT := mx_t hT h_4
          refine lv_aload_n hx hb dX6_takes_100 rfl (lv_at hl 1 rfl) ?_
          refine mx_get (v := .int (G 246 9)) (ci := 6) (C := RX6) (T := TX6) (N := 11) X Z hc.i (hc.c _) rfl inlX6 9 (by decide) wd_10_5 rfl dX6_takes_101 ?_
          obtain ⟨G_5, e_G_5, hT⟩ := mx_nm hT
          refine mx_put (ci := 6) (C := RX6) (T := TX6) (N := 11) X Z hc.i (hc.c _) rfl inlX6 tyX6 tyX6_ok nmX6 9 (by decide) wd_10_5 rfl rfl rfl (by show 9 < 11; decide) ((hc.c _).trans (congrArg (fun z => Sum.inr (6, z)) (sp_Mo_9 (mad E) _ _ _))) dX6_takes_104 (fun H locs Z => ?_)
          rw [e_G_5] at Z
          refine lv_iload_n hx hb dX6_takes_107 rfl (lv_at hl 0 rfl) ?_
          cases hT
          exact W.zret (v := (0 : Int32)) hx hb hr rfl (fun t ht hW => mx_end Z t ht _) Z.2.2.2 dX6_takes_108
        · replace hT := mx_f hT h_4
          refine lv_iconst (v := (0 : Int32)) hx hb dX6_takes_96 (by decide) ?_
          refine lv_goto (tgt := 104) hx hb dX6_takes_97 (by decide) ?_
          obtain ⟨G_6, e_G_6, hT⟩ := mx_nm hT
          refine mx_put (ci := 6) (C := RX6) (T := TX6) (N := 11) X Z hc.i (hc.c _) rfl inlX6 tyX6 tyX6_ok nmX6 9 (by decide) wd_10_5 rfl rfl rfl (by show 9 < 11; decide) ((hc.c _).trans (congrArg (fun z => Sum.inr (6, z)) (sp_Mo_9 (mad E) _ _ _))) dX6_takes_104 (fun H locs Z => ?_)
          rw [e_G_6] at Z
          refine lv_iload_n hx hb dX6_takes_107 rfl (lv_at hl 0 rfl) ?_
          cases hT
          exact W.zret (v := (0 : Int32)) hx hb hr rfl (fun t ht hW => mx_end Z t ht _) Z.2.2.2 dX6_takes_108
      · replace hT := mx_t hT h_3
        refine lv_aload_n hx hb dX6_takes_76 rfl (lv_at hl 0 rfl) ?_
        refine mx_get (v := .int (G 246 8)) (ci := 6) (C := RX6) (T := TX6) (N := 11) X Z hc.i (hc.c _) rfl inlX6 8 (by decide) wd_10_4 rfl dX6_takes_77 ?_
        refine lv_bipush (v := (12 : Int32)) hx hb dX6_takes_80 (by decide) ?_
        refine lv_icmp_ge (tgt := 89) hx hb dX6_takes_82 (by decide) (fun h_7 => ?_) (fun h_7 => ?_)
        · replace hT := mx_t hT h_7
          refine lv_iconst (v := (0 : Int32)) hx hb dX6_takes_89 (by decide) ?_
          refine lv_istore_n (lv' := [(2, .int ((0 : Int32))), (0, .ref (mad E (246))), (1, .int (x1))]) hx hb dX6_takes_90 rfl hl (by decide) rfl (fun ls hl => ?_)
          refine lv_aload_n hx hb dX6_takes_91 rfl (lv_at hl 1 rfl) ?_
          refine lv_iload_n hx hb dX6_takes_92 rfl (lv_at hl 0 rfl) ?_
          refine lv_if_eq (tgt := 100) hx hb dX6_takes_93 (by decide) (fun h_8 => ?_) (fun h_8 => ?_)
          · replace hT := mx_t hT h_8
            refine lv_aload_n hx hb dX6_takes_100 rfl (lv_at hl 1 rfl) ?_
            refine mx_get (v := .int (G 246 9)) (ci := 6) (C := RX6) (T := TX6) (N := 11) X Z hc.i (hc.c _) rfl inlX6 9 (by decide) wd_10_5 rfl dX6_takes_101 ?_
            obtain ⟨G_9, e_G_9, hT⟩ := mx_nm hT
            refine mx_put (ci := 6) (C := RX6) (T := TX6) (N := 11) X Z hc.i (hc.c _) rfl inlX6 tyX6 tyX6_ok nmX6 9 (by decide) wd_10_5 rfl rfl rfl (by show 9 < 11; decide) ((hc.c _).trans (congrArg (fun z => Sum.inr (6, z)) (sp_Mo_9 (mad E) _ _ _))) dX6_takes_104 (fun H locs Z => ?_)
            rw [e_G_9] at Z
            refine lv_iload_n hx hb dX6_takes_107 rfl (lv_at hl 0 rfl) ?_
            cases hT
            exact W.zret (v := (0 : Int32)) hx hb hr rfl (fun t ht hW => mx_end Z t ht _) Z.2.2.2 dX6_takes_108
          · replace hT := mx_f hT h_8
            refine lv_iconst (v := (0 : Int32)) hx hb dX6_takes_96 (by decide) ?_
            refine lv_goto (tgt := 104) hx hb dX6_takes_97 (by decide) ?_
            obtain ⟨G_10, e_G_10, hT⟩ := mx_nm hT
            refine mx_put (ci := 6) (C := RX6) (T := TX6) (N := 11) X Z hc.i (hc.c _) rfl inlX6 tyX6 tyX6_ok nmX6 9 (by decide) wd_10_5 rfl rfl rfl (by show 9 < 11; decide) ((hc.c _).trans (congrArg (fun z => Sum.inr (6, z)) (sp_Mo_9 (mad E) _ _ _))) dX6_takes_104 (fun H locs Z => ?_)
            rw [e_G_10] at Z
            refine lv_iload_n hx hb dX6_takes_107 rfl (lv_at hl 0 rfl) ?_
            cases hT
            exact W.zret (v := (0 : Int32)) hx hb hr rfl (fun t ht hW => mx_end Z t ht _) Z.2.2.2 dX6_takes_108
        · replace hT := mx_f hT h_7
          refine lv_iconst (v := (1 : Int32)) hx hb dX6_takes_85 (by decide) ?_
          refine lv_goto (tgt := 90) hx hb dX6_takes_86 (by decide) ?_
          refine lv_istore_n (lv' := [(2, .int ((1 : Int32))), (0, .ref (mad E (246))), (1, .int (x1))]) hx hb dX6_takes_90 rfl hl (by decide) rfl (fun ls hl => ?_)
          refine lv_aload_n hx hb dX6_takes_91 rfl (lv_at hl 1 rfl) ?_
          refine lv_iload_n hx hb dX6_takes_92 rfl (lv_at hl 0 rfl) ?_
          refine lv_if_eq (tgt := 100) hx hb dX6_takes_93 (by decide) (fun h_11 => ?_) (fun h_11 => ?_)
          · replace hT := mx_t hT h_11
            refine lv_aload_n hx hb dX6_takes_100 rfl (lv_at hl 1 rfl) ?_
            refine mx_get (v := .int (G 246 9)) (ci := 6) (C := RX6) (T := TX6) (N := 11) X Z hc.i (hc.c _) rfl inlX6 9 (by decide) wd_10_5 rfl dX6_takes_101 ?_
            obtain ⟨G_12, e_G_12, hT⟩ := mx_nm hT
            refine mx_put (ci := 6) (C := RX6) (T := TX6) (N := 11) X Z hc.i (hc.c _) rfl inlX6 tyX6 tyX6_ok nmX6 9 (by decide) wd_10_5 rfl rfl rfl (by show 9 < 11; decide) ((hc.c _).trans (congrArg (fun z => Sum.inr (6, z)) (sp_Mo_9 (mad E) _ _ _))) dX6_takes_104 (fun H locs Z => ?_)
            rw [e_G_12] at Z
            refine lv_iload_n hx hb dX6_takes_107 rfl (lv_at hl 0 rfl) ?_
            cases hT
            exact W.zret (v := (1 : Int32)) hx hb hr rfl (fun t ht hW => mx_end Z t ht _) Z.2.2.2 dX6_takes_108
          · replace hT := mx_f hT h_11
            refine lv_iconst (v := (0 : Int32)) hx hb dX6_takes_96 (by decide) ?_
            refine lv_goto (tgt := 104) hx hb dX6_takes_97 (by decide) ?_
            obtain ⟨G_13, e_G_13, hT⟩ := mx_nm hT
            refine mx_put (ci := 6) (C := RX6) (T := TX6) (N := 11) X Z hc.i (hc.c _) rfl inlX6 tyX6 tyX6_ok nmX6 9 (by decide) wd_10_5 rfl rfl rfl (by show 9 < 11; decide) ((hc.c _).trans (congrArg (fun z => Sum.inr (6, z)) (sp_Mo_9 (mad E) _ _ _))) dX6_takes_104 (fun H locs Z => ?_)
            rw [e_G_13] at Z
            refine lv_iload_n hx hb dX6_takes_107 rfl (lv_at hl 0 rfl) ?_
            cases hT
            exact W.zret (v := (1 : Int32)) hx hb hr rfl (fun t ht hW => mx_end Z t ht _) Z.2.2.2 dX6_takes_108
    · replace hT := mx_t hT h_2
      refine lv_aload_n hx hb dX6_takes_55 rfl (lv_at hl 0 rfl) ?_
      refine mx_get (v := .int (G 246 9)) (ci := 6) (C := RX6) (T := TX6) (N := 11) X Z hc.i (hc.c _) rfl inlX6 9 (by decide) wd_10_5 rfl dX6_takes_56 ?_
      refine lv_iconst (v := (1 : Int32)) hx hb dX6_takes_59 (by decide) ?_
      refine lv_icmp_ne (tgt := 70) hx hb dX6_takes_60 (by decide) (fun h_14 => ?_) (fun h_14 => ?_)
      · replace hT := mx_f hT h_14
        refine lv_iload_n hx hb dX6_takes_70 rfl (lv_at hl 1 rfl) ?_
        refine lv_bipush (v := (44 : Int32)) hx hb dX6_takes_71 (by decide) ?_
        refine lv_icmp_ne (tgt := 89) hx hb dX6_takes_73 (by decide) (fun h_15 => ?_) (fun h_15 => ?_)
        · replace hT := mx_f hT h_15
          refine lv_iconst (v := (0 : Int32)) hx hb dX6_takes_89 (by decide) ?_
          refine lv_istore_n (lv' := [(2, .int ((0 : Int32))), (0, .ref (mad E (246))), (1, .int (x1))]) hx hb dX6_takes_90 rfl hl (by decide) rfl (fun ls hl => ?_)
          refine lv_aload_n hx hb dX6_takes_91 rfl (lv_at hl 1 rfl) ?_
          refine lv_iload_n hx hb dX6_takes_92 rfl (lv_at hl 0 rfl) ?_
          refine lv_if_eq (tgt := 100) hx hb dX6_takes_93 (by decide) (fun h_16 => ?_) (fun h_16 => ?_)
          · replace hT := mx_t hT h_16
            refine lv_aload_n hx hb dX6_takes_100 rfl (lv_at hl 1 rfl) ?_
            refine mx_get (v := .int (G 246 9)) (ci := 6) (C := RX6) (T := TX6) (N := 11) X Z hc.i (hc.c _) rfl inlX6 9 (by decide) wd_10_5 rfl dX6_takes_101 ?_
            obtain ⟨G_17, e_G_17, hT⟩ := mx_nm hT
            refine mx_put (ci := 6) (C := RX6) (T := TX6) (N := 11) X Z hc.i (hc.c _) rfl inlX6 tyX6 tyX6_ok nmX6 9 (by decide) wd_10_5 rfl rfl rfl (by show 9 < 11; decide) ((hc.c _).trans (congrArg (fun z => Sum.inr (6, z)) (sp_Mo_9 (mad E) _ _ _))) dX6_takes_104 (fun H locs Z => ?_)
            rw [e_G_17] at Z
            refine lv_iload_n hx hb dX6_takes_107 rfl (lv_at hl 0 rfl) ?_
            cases hT
            exact W.zret (v := (0 : Int32)) hx hb hr rfl (fun t ht hW => mx_end Z t ht _) Z.2.2.2 dX6_takes_108
          · replace hT := mx_f hT h_16
            refine lv_iconst (v := (0 : Int32)) hx hb dX6_takes_96 (by decide) ?_
            refine lv_goto (tgt := 104) hx hb dX6_takes_97 (by decide) ?_
            obtain ⟨G_18, e_G_18, hT⟩ := mx_nm hT
            refine mx_put (ci := 6) (C := RX6) (T := TX6) (N := 11) X Z hc.i (hc.c _) rfl inlX6 tyX6 tyX6_ok nmX6 9 (by decide) wd_10_5 rfl rfl rfl (by show 9 < 11; decide) ((hc.c _).trans (congrArg (fun z => Sum.inr (6, z)) (sp_Mo_9 (mad E) _ _ _))) dX6_takes_104 (fun H locs Z => ?_)
            rw [e_G_18] at Z
            refine lv_iload_n hx hb dX6_takes_107 rfl (lv_at hl 0 rfl) ?_
            cases hT
            exact W.zret (v := (0 : Int32)) hx hb hr rfl (fun t ht hW => mx_end Z t ht _) Z.2.2.2 dX6_takes_108
        · replace hT := mx_t hT h_15
          refine lv_aload_n hx hb dX6_takes_76 rfl (lv_at hl 0 rfl) ?_
          refine mx_get (v := .int (G 246 8)) (ci := 6) (C := RX6) (T := TX6) (N := 11) X Z hc.i (hc.c _) rfl inlX6 8 (by decide) wd_10_4 rfl dX6_takes_77 ?_
          refine lv_bipush (v := (12 : Int32)) hx hb dX6_takes_80 (by decide) ?_
          refine lv_icmp_ge (tgt := 89) hx hb dX6_takes_82 (by decide) (fun h_19 => ?_) (fun h_19 => ?_)
          · replace hT := mx_t hT h_19
            refine lv_iconst (v := (0 : Int32)) hx hb dX6_takes_89 (by decide) ?_
            refine lv_istore_n (lv' := [(2, .int ((0 : Int32))), (0, .ref (mad E (246))), (1, .int (x1))]) hx hb dX6_takes_90 rfl hl (by decide) rfl (fun ls hl => ?_)
            refine lv_aload_n hx hb dX6_takes_91 rfl (lv_at hl 1 rfl) ?_
            refine lv_iload_n hx hb dX6_takes_92 rfl (lv_at hl 0 rfl) ?_
            refine lv_if_eq (tgt := 100) hx hb dX6_takes_93 (by decide) (fun h_20 => ?_) (fun h_20 => ?_)
            · replace hT := mx_t hT h_20
              refine lv_aload_n hx hb dX6_takes_100 rfl (lv_at hl 1 rfl) ?_
              refine mx_get (v := .int (G 246 9)) (ci := 6) (C := RX6) (T := TX6) (N := 11) X Z hc.i (hc.c _) rfl inlX6 9 (by decide) wd_10_5 rfl dX6_takes_101 ?_
              obtain ⟨G_21, e_G_21, hT⟩ := mx_nm hT
              refine mx_put (ci := 6) (C := RX6) (T := TX6) (N := 11) X Z hc.i (hc.c _) rfl inlX6 tyX6 tyX6_ok nmX6 9 (by decide) wd_10_5 rfl rfl rfl (by show 9 < 11; decide) ((hc.c _).trans (congrArg (fun z => Sum.inr (6, z)) (sp_Mo_9 (mad E) _ _ _))) dX6_takes_104 (fun H locs Z => ?_)
              rw [e_G_21] at Z
              refine lv_iload_n hx hb dX6_takes_107 rfl (lv_at hl 0 rfl) ?_
              cases hT
              exact W.zret (v := (0 : Int32)) hx hb hr rfl (fun t ht hW => mx_end Z t ht _) Z.2.2.2 dX6_takes_108
            · replace hT := mx_f hT h_20
              refine lv_iconst (v := (0 : Int32)) hx hb dX6_takes_96 (by decide) ?_
              refine lv_goto (tgt := 104) hx hb dX6_takes_97 (by decide) ?_
              obtain ⟨G_22, e_G_22, hT⟩ := mx_nm hT
              refine mx_put (ci := 6) (C := RX6) (T := TX6) (N := 11) X Z hc.i (hc.c _) rfl inlX6 tyX6 tyX6_ok nmX6 9 (by decide) wd_10_5 rfl rfl rfl (by show 9 < 11; decide) ((hc.c _).trans (congrArg (fun z => Sum.inr (6, z)) (sp_Mo_9 (mad E) _ _ _))) dX6_takes_104 (fun H locs Z => ?_)
              rw [e_G_22] at Z
              refine lv_iload_n hx hb dX6_takes_107 rfl (lv_at hl 0 rfl) ?_
              cases hT
              exact W.zret (v := (0 : Int32)) hx hb hr rfl (fun t ht hW => mx_end Z t ht _) Z.2.2.2 dX6_takes_108
          · replace hT := mx_f hT h_19
            refine lv_iconst (v := (1 : Int32)) hx hb dX6_takes_85 (by decide) ?_
            refine lv_goto (tgt := 90) hx hb dX6_takes_86 (by decide) ?_
            refine lv_istore_n (lv' := [(2, .int ((1 : Int32))), (0, .ref (mad E (246))), (1, .int (x1))]) hx hb dX6_takes_90 rfl hl (by decide) rfl (fun ls hl => ?_)
            refine lv_aload_n hx hb dX6_takes_91 rfl (lv_at hl 1 rfl) ?_
            refine lv_iload_n hx hb dX6_takes_92 rfl (lv_at hl 0 rfl) ?_
            refine lv_if_eq (tgt := 100) hx hb dX6_takes_93 (by decide) (fun h_23 => ?_) (fun h_23 => ?_)
            · replace hT := mx_t hT h_23
              refine lv_aload_n hx hb dX6_takes_100 rfl (lv_at hl 1 rfl) ?_
              refine mx_get (v := .int (G 246 9)) (ci := 6) (C := RX6) (T := TX6) (N := 11) X Z hc.i (hc.c _) rfl inlX6 9 (by decide) wd_10_5 rfl dX6_takes_101 ?_
              obtain ⟨G_24, e_G_24, hT⟩ := mx_nm hT
              refine mx_put (ci := 6) (C := RX6) (T := TX6) (N := 11) X Z hc.i (hc.c _) rfl inlX6 tyX6 tyX6_ok nmX6 9 (by decide) wd_10_5 rfl rfl rfl (by show 9 < 11; decide) ((hc.c _).trans (congrArg (fun z => Sum.inr (6, z)) (sp_Mo_9 (mad E) _ _ _))) dX6_takes_104 (fun H locs Z => ?_)
              rw [e_G_24] at Z
              refine lv_iload_n hx hb dX6_takes_107 rfl (lv_at hl 0 rfl) ?_
              cases hT
              exact W.zret (v := (1 : Int32)) hx hb hr rfl (fun t ht hW => mx_end Z t ht _) Z.2.2.2 dX6_takes_108
            · replace hT := mx_f hT h_23
              refine lv_iconst (v := (0 : Int32)) hx hb dX6_takes_96 (by decide) ?_
              refine lv_goto (tgt := 104) hx hb dX6_takes_97 (by decide) ?_
              obtain ⟨G_25, e_G_25, hT⟩ := mx_nm hT
              refine mx_put (ci := 6) (C := RX6) (T := TX6) (N := 11) X Z hc.i (hc.c _) rfl inlX6 tyX6 tyX6_ok nmX6 9 (by decide) wd_10_5 rfl rfl rfl (by show 9 < 11; decide) ((hc.c _).trans (congrArg (fun z => Sum.inr (6, z)) (sp_Mo_9 (mad E) _ _ _))) dX6_takes_104 (fun H locs Z => ?_)
              rw [e_G_25] at Z
              refine lv_iload_n hx hb dX6_takes_107 rfl (lv_at hl 0 rfl) ?_
              cases hT
              exact W.zret (v := (1 : Int32)) hx hb hr rfl (fun t ht hW => mx_end Z t ht _) Z.2.2.2 dX6_takes_108
      · replace hT := mx_t hT h_14
        refine lv_aload_n hx hb dX6_takes_63 rfl (lv_at hl 0 rfl) ?_
        refine lv_iconst (v := (2 : Int32)) hx hb dX6_takes_64 (by decide) ?_
        obtain ⟨G_26, e_G_26, hT⟩ := mx_nm hT
        refine mx_put (ci := 6) (C := RX6) (T := TX6) (N := 11) X Z hc.i (hc.c _) rfl inlX6 tyX6 tyX6_ok nmX6 9 (by decide) wd_10_5 rfl rfl rfl (by show 9 < 11; decide) ((hc.c _).trans (congrArg (fun z => Sum.inr (6, z)) (sp_Mo_9 (mad E) _ _ _))) dX6_takes_65 (fun H locs Z => ?_)
        rw [e_G_26] at Z
        refine lv_iconst (v := (1 : Int32)) hx hb dX6_takes_68 (by decide) ?_
        cases hT
        exact W.zret (v := (1 : Int32)) hx hb hr rfl (fun t ht hW => mx_end Z t ht _) Z.2.2.2 dX6_takes_69
  · replace hT := mx_t hT h_1
    refine lv_iload_n hx hb dX6_takes_7 rfl (lv_at hl 1 rfl) ?_
    refine lv_bipush (v := (48 : Int32)) hx hb dX6_takes_8 (by decide) ?_
    refine lv_bipush (v := (57 : Int32)) hx hb dX6_takes_10 (by decide) ?_
    obtain ⟨q_27, h_q_27, hT⟩ := mx_bind hT
    refine mx_callS (As := [.int (x1), .int ((48 : Int32)), .int ((57 : Int32))]) (rest := []) (st1 := [.int (q_27)]) X Z hl.1 (c6_within l E hJ _ _ _ _ _ h_q_27) wd_9_1 wd_9_2 wd_1_5 wd_9_3 hd6_within ⟨Nat.le_trans (by decide) hR.1, Nat.le_trans (by decide) hR.2⟩ ⟨Nat.zero_le _, Nat.zero_le _⟩ (Nat.le_of_ble_eq_true rfl) rfl rfl dX6_takes_12 (fun H locs Z => ?_)
    refine lv_istore_n (lv' := [(2, .int (q_27)), (0, .ref (mad E (246))), (1, .int (x1))]) hx hb dX6_takes_15 rfl hl (by decide) rfl (fun ls hl => ?_)
    refine lv_aload_n hx hb dX6_takes_16 rfl (lv_at hl 1 rfl) ?_
    refine lv_dup hx hb dX6_takes_17 rfl ?_
    refine mx_get (v := .int (G 246 8)) (ci := 6) (C := RX6) (T := TX6) (N := 11) X Z hc.i (hc.c _) rfl inlX6 8 (by decide) wd_10_4 rfl dX6_takes_18 ?_
    refine lv_iload_n hx hb dX6_takes_21 rfl (lv_at hl 0 rfl) ?_
    refine lv_if_eq (tgt := 29) hx hb dX6_takes_22 (by decide) (fun h_28 => ?_) (fun h_28 => ?_)
    · replace hT := mx_t hT h_28
      refine lv_iconst (v := (0 : Int32)) hx hb dX6_takes_29 (by decide) ?_
      refine lv_iadd hx hb dX6_takes_30 ?_
      obtain ⟨G_29, e_G_29, hT⟩ := mx_nm hT
      refine mx_put (ci := 6) (C := RX6) (T := TX6) (N := 11) X Z hc.i (hc.c _) rfl inlX6 tyX6 tyX6_ok nmX6 8 (by decide) wd_10_4 rfl rfl rfl (by show 8 < 11; decide) ((hc.c _).trans (congrArg (fun z => Sum.inr (6, z)) (sp_Mo_8 (mad E) _ _ _))) dX6_takes_31 (fun H locs Z => ?_)
      rw [e_G_29] at Z
      refine lv_aload_n hx hb dX6_takes_34 rfl (lv_at hl 1 rfl) ?_
      refine lv_iload_n hx hb dX6_takes_35 rfl (lv_at hl 0 rfl) ?_
      refine lv_if_eq (tgt := 43) hx hb dX6_takes_36 (by decide) (fun h_30 => ?_) (fun h_30 => ?_)
      · replace hT := mx_t hT h_30
        refine lv_iconst (v := (0 : Int32)) hx hb dX6_takes_43 (by decide) ?_
        obtain ⟨G_31, e_G_31, hT⟩ := mx_nm hT
        refine mx_put (ci := 6) (C := RX6) (T := TX6) (N := 11) X Z hc.i (hc.c _) rfl inlX6 tyX6 tyX6_ok nmX6 9 (by decide) wd_10_5 rfl rfl rfl (by show 9 < 11; decide) ((hc.c _).trans (congrArg (fun z => Sum.inr (6, z)) (sp_Mo_9 (mad E) _ _ _))) dX6_takes_44 (fun H locs Z => ?_)
        rw [e_G_31] at Z
        refine lv_iload_n hx hb dX6_takes_47 rfl (lv_at hl 0 rfl) ?_
        obtain ⟨h_32, hT⟩ := mx_chk hT
        cases hT
        exact W.zret hx hb hr (mBl.n h_32) (fun t ht hW => mx_end Z t ht _) Z.2.2.2 dX6_takes_48
      · replace hT := mx_f hT h_30
        refine lv_iconst (v := (1 : Int32)) hx hb dX6_takes_39 (by decide) ?_
        refine lv_goto (tgt := 44) hx hb dX6_takes_40 (by decide) ?_
        obtain ⟨G_33, e_G_33, hT⟩ := mx_nm hT
        refine mx_put (ci := 6) (C := RX6) (T := TX6) (N := 11) X Z hc.i (hc.c _) rfl inlX6 tyX6 tyX6_ok nmX6 9 (by decide) wd_10_5 rfl rfl rfl (by show 9 < 11; decide) ((hc.c _).trans (congrArg (fun z => Sum.inr (6, z)) (sp_Mo_9 (mad E) _ _ _))) dX6_takes_44 (fun H locs Z => ?_)
        rw [e_G_33] at Z
        refine lv_iload_n hx hb dX6_takes_47 rfl (lv_at hl 0 rfl) ?_
        obtain ⟨h_34, hT⟩ := mx_chk hT
        cases hT
        exact W.zret hx hb hr (mBl.n h_34) (fun t ht hW => mx_end Z t ht _) Z.2.2.2 dX6_takes_48
    · replace hT := mx_f hT h_28
      refine lv_iconst (v := (1 : Int32)) hx hb dX6_takes_25 (by decide) ?_
      refine lv_goto (tgt := 30) hx hb dX6_takes_26 (by decide) ?_
      refine lv_iadd hx hb dX6_takes_30 ?_
      obtain ⟨G_35, e_G_35, hT⟩ := mx_nm hT
      refine mx_put (ci := 6) (C := RX6) (T := TX6) (N := 11) X Z hc.i (hc.c _) rfl inlX6 tyX6 tyX6_ok nmX6 8 (by decide) wd_10_4 rfl rfl rfl (by show 8 < 11; decide) ((hc.c _).trans (congrArg (fun z => Sum.inr (6, z)) (sp_Mo_8 (mad E) _ _ _))) dX6_takes_31 (fun H locs Z => ?_)
      rw [e_G_35] at Z
      refine lv_aload_n hx hb dX6_takes_34 rfl (lv_at hl 1 rfl) ?_
      refine lv_iload_n hx hb dX6_takes_35 rfl (lv_at hl 0 rfl) ?_
      refine lv_if_eq (tgt := 43) hx hb dX6_takes_36 (by decide) (fun h_36 => ?_) (fun h_36 => ?_)
      · replace hT := mx_t hT h_36
        refine lv_iconst (v := (0 : Int32)) hx hb dX6_takes_43 (by decide) ?_
        obtain ⟨G_37, e_G_37, hT⟩ := mx_nm hT
        refine mx_put (ci := 6) (C := RX6) (T := TX6) (N := 11) X Z hc.i (hc.c _) rfl inlX6 tyX6 tyX6_ok nmX6 9 (by decide) wd_10_5 rfl rfl rfl (by show 9 < 11; decide) ((hc.c _).trans (congrArg (fun z => Sum.inr (6, z)) (sp_Mo_9 (mad E) _ _ _))) dX6_takes_44 (fun H locs Z => ?_)
        rw [e_G_37] at Z
        refine lv_iload_n hx hb dX6_takes_47 rfl (lv_at hl 0 rfl) ?_
        obtain ⟨h_38, hT⟩ := mx_chk hT
        cases hT
        exact W.zret hx hb hr (mBl.n h_38) (fun t ht hW => mx_end Z t ht _) Z.2.2.2 dX6_takes_48
      · replace hT := mx_f hT h_36
        refine lv_iconst (v := (1 : Int32)) hx hb dX6_takes_39 (by decide) ?_
        refine lv_goto (tgt := 44) hx hb dX6_takes_40 (by decide) ?_
        obtain ⟨G_39, e_G_39, hT⟩ := mx_nm hT
        refine mx_put (ci := 6) (C := RX6) (T := TX6) (N := 11) X Z hc.i (hc.c _) rfl inlX6 tyX6 tyX6_ok nmX6 9 (by decide) wd_10_5 rfl rfl rfl (by show 9 < 11; decide) ((hc.c _).trans (congrArg (fun z => Sum.inr (6, z)) (sp_Mo_9 (mad E) _ _ _))) dX6_takes_44 (fun H locs Z => ?_)
        rw [e_G_39] at Z
        refine lv_iload_n hx hb dX6_takes_47 rfl (lv_at hl 0 rfl) ?_
        obtain ⟨h_40, hT⟩ := mx_chk hT
        cases hT
        exact W.zret hx hb hr (mBl.n h_40) (fun t ht hW => mx_end Z t ht _) Z.2.2.2 dX6_takes_48
/-! PeatRailwayModel.faultNow -/
def x6_faultNow_L12 : Nat → Int32 → mM → Option (Int32 × mM)
  | 0, _, _ => none
  | n + 1, w1, G =>
    if (G 246 6) ≤ w1 then
      some (w1, G)
    else
      mCk (mIn w1 40) <|
      (x6_takes (G 251 w1.toNatClampNeg) G).bind fun q_5 =>
      if q_5.1 = 0 then
        some (w1, q_5.2)
      else
        mNm (w1 + (1 : Int32)) fun v_7 =>
        x6_faultNow_L12 n v_7 q_5.2
def x6_faultNow (G : mM) : Option (Int32 × mM) :=
  mNm (up2 G 246 8 ((0 : Int32))) fun G_1 =>
  mNm (up2 G_1 246 9 ((0 : Int32))) fun G_2 =>
  (x6_faultNow_L12 mFu ((0 : Int32)) G_2).bind fun q_8 =>
  if q_8.1 < (q_8.2 246 6) then
    some (q_8.1, q_8.2)
  else
    if (q_8.2 246 9) = 0 then
      some (q_8.1, q_8.2)
    else
      if ((3 : Int32)) ≤ (q_8.2 246 8) then
        some ((-1 : Int32), q_8.2)
      else
        some (q_8.1, q_8.2)
theorem hd6_faultNow : yX6_faultNow.cls = RX6 ∧ yX6_faultNow.cls ≠ "java/lang/invoke/MethodHandle" ∧ yX6_faultNow.cls ≠ "java/lang/invoke/VarHandle" ∧ (parseMethodDescriptor yX6_faultNow.desc).map (fun d => d.parameters.length) = some 0 := by decide +kernel
set_option maxHeartbeats 4000000 in
set_option maxRecDepth 100000 in
theorem k6_faultNow_12 {p : Program} {l : Launch} {e : Env} {R : Room} {s : State} {m : MethodId} {args : Array Value} {below : List Frame} {meth : Method} {cd : Code} {Q : State → Prop} {E : mE} (X : mX p s m args cd cX6_faultNow 2 RX6 E) (hR : 2 ≤ R.frames ∧ 44 ≤ R.locals) (hJ : mJ E) (hy0 : mMo E 246) : ∀ (n : Nat) (w1 : Int32) (G : mM) (H : Heap) (locs : List Loc) (ls : Array Slot) (r : Int32 × mM), x6_faultNow_L12 n w1 G = some r → mZ E s.heap H locs G → lv_has ls 2 [(0, .ref (mad E (246))), (1, .int (w1))] → (∀ (H : Heap) (locs : List Loc) (ls : Array Slot), mZ E s.heap H locs r.2 → lv_has ls 2 [(0, .ref (mad E (246))), (1, .int (r.1))] → W p l e R s m args below meth cd H locs 0 0 Q (F0 m 39 ls [])) → W p l e R s m args below meth cd H locs 0 0 Q (F0 m 12 ls []) := by
  have hx := X.1
  have hb := X.2.1
  have hown := X.2.2.2.1
  have hts := X.2.2.2.2.1
  intro n
  induction n with
  | zero =>
    intro w1 G H locs ls r hT
    rw [x6_faultNow_L12] at hT
    cases hT
  | succ n ih =>
    intro w1 G H locs ls r hT Z hl k0
    rw [x6_faultNow_L12] at hT
    refine lv_iload_n hx hb dX6_faultNow_12 rfl (lv_at hl 1 rfl) ?_
    refine lv_aload_n hx hb dX6_faultNow_13 rfl (lv_at hl 0 rfl) ?_
    refine mx_get (v := .int (G 246 6)) (ci := 6) (C := RX6) (T := TX6) (N := 11) X Z hy0.i (hy0.c _) rfl inlX6 6 (by decide) wd_9_0 rfl dX6_faultNow_14 ?_
    refine lv_icmp_ge (tgt := 39) hx hb dX6_faultNow_17 (by decide) (fun h_3 => ?_) (fun h_3 => ?_)
    · replace hT := mx_t hT h_3
      cases hT
      exact k0 _ _ _ Z (lv_sub hl [0, 1] rfl)
    · replace hT := mx_f hT h_3
      refine lv_aload_n hx hb dX6_faultNow_20 rfl (lv_at hl 0 rfl) ?_
      refine lv_aload_n hx hb dX6_faultNow_21 rfl (lv_at hl 0 rfl) ?_
      refine mx_get (v := .ref (mad E (251))) (ci := 6) (C := RX6) (T := TX6) (N := 11) X Z hy0.i (hy0.c _) rfl inlX6 7 (by decide) wd_8_3 rfl dX6_faultNow_22 ?_
      refine lv_iload_n hx hb dX6_faultNow_25 rfl (lv_at hl 1 rfl) ?_
      obtain ⟨h_4, hT⟩ := mx_chk hT
      refine mx_iald X Z hy0.text h_4 dX6_faultNow_26 ?_
      obtain ⟨q_5, h_q_5, hT⟩ := mx_bind hT
      refine mx_callV (As := [.int (G 251 w1.toNatClampNeg)]) (rest := []) (st1 := [.int (q_5.1)]) (C := RX6) (T := TX6) (N := 11) (ci := 6) X Z hl.1 (c6_takes l E hJ hy0 _ _ _ h_q_5) wd_10_6 wd_10_7 wd_10_8 wd_1_5 wd_10_9 hd6_takes ⟨Nat.le_trans (by decide) hR.1, Nat.le_trans (by decide) hR.2⟩ ⟨Nat.zero_le _, Nat.zero_le _⟩ hy0.i (hy0.c _) rfl (Nat.le_of_ble_eq_true rfl) rfl rfl dX6_faultNow_27 (fun H locs Z => ?_)
      refine lv_if_eq (tgt := 39) hx hb dX6_faultNow_30 (by decide) (fun h_6 => ?_) (fun h_6 => ?_)
      · replace hT := mx_t hT h_6
        cases hT
        exact k0 _ _ _ Z (lv_sub hl [0, 1] rfl)
      · replace hT := mx_f hT h_6
        obtain ⟨v_7, e_v_7, hT⟩ := mx_nm hT
        refine lv_iinc (v := v_7) (lv' := [(1, .int (v_7)), (0, .ref (mad E (246)))]) hx hb dX6_faultNow_33 hl (k := 1) rfl (by rw [← e_v_7]; rfl) (by decide) rfl (fun ls hl => ?_)
        refine lv_goto (tgt := 12) hx hb dX6_faultNow_36 (by decide) ?_
        exact ih _ _ _ _ _ _ hT Z (lv_sub hl [1, 0] rfl) k0
set_option maxHeartbeats 4000000 in
set_option maxRecDepth 100000 in
theorem c6_faultNow (l : Launch) (E : mE) (hJ : mJ E) (hc : mMo E 246) (G : mM) (q : (Int32 × mM)) (hT : x6_faultNow G = some q) : mMet l E yX6_faultNow cX6_faultNow 2 (some .int) 2 44 [.ref (mad E (246))] G (some (.int q.1)) q.2 := by
  refine Met.ofW (cc := cX6_faultNow) (maxL := 2) (ret := (some .int)) (by decide) rfl ?_
  intro p e s m args below meth cd s₁ B hml hv
  obtain ⟨rfl, hP, hK, hS⟩ := hv
  have X := mx_entry (own := RX6) B hml hK hJ hS rfl
  have hx := X.1
  have hb := X.2.1
  have hown := X.2.2.2.1
  have hts := X.2.2.2.2.1
  have hr := B.returns
  have hlocks := B.notSynchronized
  have hR : 2 ≤ (headSpec (mWs yX6_faultNow cX6_faultNow 2 (some .int)) ({ frames := 2, cells := 0, slots := 0, locals := 44 })).room.frames ∧ 44 ≤ (headSpec (mWs yX6_faultNow cX6_faultNow 2 (some .int)) ({ frames := 2, cells := 0, slots := 0, locals := 44 })).room.locals := ⟨Nat.le_refl _, Nat.le_refl _⟩
  have Z : mZ E s.heap s.heap [] G := ⟨hP, va_S.rf⟩
  have hl := lv_entry ([.ref (mad E (246))]) (n := 2) (Nat.le_of_ble_eq_true rfl)
  rw [lg_entry_eq]
  generalize (lg_sl ([.ref (mad E (246))]) ++ List.replicate (2 - (lg_sl ([.ref (mad E (246))])).length) Slot.unset).toArray = ls at hl ⊢
  have hl : lv_has ls 2 [(0, .ref (mad E (246)))] := hl
  unfold x6_faultNow at hT
  refine lv_aload_n hx hb dX6_faultNow_0 rfl (lv_at hl 0 rfl) ?_
  refine lv_iconst (v := (0 : Int32)) hx hb dX6_faultNow_1 (by decide) ?_
  obtain ⟨G_1, e_G_1, hT⟩ := mx_nm hT
  refine mx_put (ci := 6) (C := RX6) (T := TX6) (N := 11) X Z hc.i (hc.c _) rfl inlX6 tyX6 tyX6_ok nmX6 8 (by decide) wd_10_4 rfl rfl rfl (by show 8 < 11; decide) ((hc.c _).trans (congrArg (fun z => Sum.inr (6, z)) (sp_Mo_8 (mad E) _ _ _))) dX6_faultNow_2 (fun H locs Z => ?_)
  rw [e_G_1] at Z
  refine lv_aload_n hx hb dX6_faultNow_5 rfl (lv_at hl 0 rfl) ?_
  refine lv_iconst (v := (0 : Int32)) hx hb dX6_faultNow_6 (by decide) ?_
  obtain ⟨G_2, e_G_2, hT⟩ := mx_nm hT
  refine mx_put (ci := 6) (C := RX6) (T := TX6) (N := 11) X Z hc.i (hc.c _) rfl inlX6 tyX6 tyX6_ok nmX6 9 (by decide) wd_10_5 rfl rfl rfl (by show 9 < 11; decide) ((hc.c _).trans (congrArg (fun z => Sum.inr (6, z)) (sp_Mo_9 (mad E) _ _ _))) dX6_faultNow_7 (fun H locs Z => ?_)
  rw [e_G_2] at Z
  refine lv_iconst (v := (0 : Int32)) hx hb dX6_faultNow_10 (by decide) ?_
  refine lv_istore_n (lv' := [(1, .int ((0 : Int32))), (0, .ref (mad E (246)))]) hx hb dX6_faultNow_11 rfl hl (by decide) rfl (fun ls hl => ?_)
  obtain ⟨q_8, h_q_8, hT⟩ := mx_bind hT
  refine k6_faultNow_12 X hR hJ hc  _ _ _ _ _ _ _ h_q_8 Z (lv_sub (l' := [(0, .ref (mad E (246))), (1, .int ((0 : Int32)))]) hl [1, 0] rfl) (fun H locs ls Z hl => ?_)
  · refine lv_iload_n hx hb dX6_faultNow_39 rfl (lv_at hl 1 rfl) ?_
    refine lv_aload_n hx hb dX6_faultNow_40 rfl (lv_at hl 0 rfl) ?_
    refine mx_get (v := .int (q_8.2 246 6)) (ci := 6) (C := RX6) (T := TX6) (N := 11) X Z hc.i (hc.c _) rfl inlX6 6 (by decide) wd_9_0 rfl dX6_faultNow_41 ?_
    refine lv_icmp_lt (tgt := 62) hx hb dX6_faultNow_44 (by decide) (fun h_9 => ?_) (fun h_9 => ?_)
    · replace hT := mx_t hT h_9
      refine lv_iload_n hx hb dX6_faultNow_62 rfl (lv_at hl 1 rfl) ?_
      refine lv_goto (tgt := 67) hx hb dX6_faultNow_63 (by decide) ?_
      cases hT
      exact W.iret hx hb hr (fun t ht hW => mx_end Z t ht _) Z.2.2.2 dX6_faultNow_67
    · replace hT := mx_f hT h_9
      refine lv_aload_n hx hb dX6_faultNow_47 rfl (lv_at hl 0 rfl) ?_
      refine mx_get (v := .int (q_8.2 246 9)) (ci := 6) (C := RX6) (T := TX6) (N := 11) X Z hc.i (hc.c _) rfl inlX6 9 (by decide) wd_10_5 rfl dX6_faultNow_48 ?_
      refine lv_if_eq (tgt := 62) hx hb dX6_faultNow_51 (by decide) (fun h_10 => ?_) (fun h_10 => ?_)
      · replace hT := mx_t hT h_10
        refine lv_iload_n hx hb dX6_faultNow_62 rfl (lv_at hl 1 rfl) ?_
        refine lv_goto (tgt := 67) hx hb dX6_faultNow_63 (by decide) ?_
        cases hT
        exact W.iret hx hb hr (fun t ht hW => mx_end Z t ht _) Z.2.2.2 dX6_faultNow_67
      · replace hT := mx_f hT h_10
        refine lv_aload_n hx hb dX6_faultNow_54 rfl (lv_at hl 0 rfl) ?_
        refine mx_get (v := .int (q_8.2 246 8)) (ci := 6) (C := RX6) (T := TX6) (N := 11) X Z hc.i (hc.c _) rfl inlX6 8 (by decide) wd_10_4 rfl dX6_faultNow_55 ?_
        refine lv_iconst (v := (3 : Int32)) hx hb dX6_faultNow_58 (by decide) ?_
        refine lv_icmp_ge (tgt := 66) hx hb dX6_faultNow_59 (by decide) (fun h_11 => ?_) (fun h_11 => ?_)
        · replace hT := mx_t hT h_11
          refine lv_iconst (v := (-1 : Int32)) hx hb dX6_faultNow_66 (by decide) ?_
          cases hT
          exact W.iret hx hb hr (fun t ht hW => mx_end Z t ht _) Z.2.2.2 dX6_faultNow_67
        · replace hT := mx_f hT h_11
          refine lv_iload_n hx hb dX6_faultNow_62 rfl (lv_at hl 1 rfl) ?_
          refine lv_goto (tgt := 67) hx hb dX6_faultNow_63 (by decide) ?_
          cases hT
          exact W.iret hx hb hr (fun t ht hW => mx_end Z t ht _) Z.2.2.2 dX6_faultNow_67
/-! PeatRailwayModel.fault -/
def x6_fault (G : mM) : Option (Int32 × mM) :=
  (x6_faultNow G).bind fun q_1 =>
  some (q_1.1, q_1.2)
theorem hd6_fault : yX6_fault.cls = RX6 ∧ yX6_fault.cls ≠ "java/lang/invoke/MethodHandle" ∧ yX6_fault.cls ≠ "java/lang/invoke/VarHandle" ∧ (parseMethodDescriptor yX6_fault.desc).map (fun d => d.parameters.length) = some 0 := by decide +kernel
set_option maxHeartbeats 4000000 in
set_option maxRecDepth 100000 in
theorem c6_fault (l : Launch) (E : mE) (hJ : mJ E) (hc : mMo E 246) (G : mM) (q : (Int32 × mM)) (hT : x6_fault G = some q) : mMet l E yX6_fault cX6_fault 1 (some .int) 3 65 [.ref (mad E (246))] G (some (.int q.1)) q.2 := by
  refine Met.ofW (cc := cX6_fault) (maxL := 1) (ret := (some .int)) (by decide) rfl ?_
  intro p e s m args below meth cd s₁ B hml hv
  obtain ⟨rfl, hP, hK, hS⟩ := hv
  have X := mx_entry (own := RX6) B hml hK hJ hS rfl
  have hx := X.1
  have hb := X.2.1
  have hown := X.2.2.2.1
  have hts := X.2.2.2.2.1
  have hr := B.returns
  have hlocks := B.notSynchronized
  have hR : 3 ≤ (headSpec (mWs yX6_fault cX6_fault 1 (some .int)) ({ frames := 3, cells := 0, slots := 0, locals := 65 })).room.frames ∧ 65 ≤ (headSpec (mWs yX6_fault cX6_fault 1 (some .int)) ({ frames := 3, cells := 0, slots := 0, locals := 65 })).room.locals := ⟨Nat.le_refl _, Nat.le_refl _⟩
  have Z : mZ E s.heap s.heap [] G := ⟨hP, va_S.rf⟩
  have hl := lv_entry ([.ref (mad E (246))]) (n := 1) (Nat.le_of_ble_eq_true rfl)
  rw [lg_entry_eq]
  generalize (lg_sl ([.ref (mad E (246))]) ++ List.replicate (1 - (lg_sl ([.ref (mad E (246))])).length) Slot.unset).toArray = ls at hl ⊢
  have hl : lv_has ls 1 [(0, .ref (mad E (246)))] := hl
  unfold x6_fault at hT
  refine lv_aload_n hx hb dX6_fault_0 rfl (lv_at hl 0 rfl) ?_
  obtain ⟨q_1, h_q_1, hT⟩ := mx_bind hT
  refine mx_callV (As := []) (rest := []) (st1 := [.int (q_1.1)]) (C := RX6) (T := TX6) (N := 11) (ci := 6) X Z hl.1 (c6_faultNow l E hJ hc _ _ h_q_1) wd_10_0 wd_10_1 wd_10_2 wd_1_5 wd_10_3 hd6_faultNow ⟨Nat.le_trans (by decide) hR.1, Nat.le_trans (by decide) hR.2⟩ ⟨Nat.zero_le _, Nat.zero_le _⟩ hc.i (hc.c _) rfl (Nat.le_of_ble_eq_true rfl) rfl rfl dX6_fault_1 (fun H locs Z => ?_)
  cases hT
  exact W.iret hx hb hr (fun t ht hW => mx_end Z t ht _) Z.2.2.2 dX6_fault_4
/-! PeatRailwayModel.peatInTrains -/
def x6_peatInTrains_L4 : Nat → Int32 → Int32 → mM → Option (Int32)
  | 0, _, _, _ => none
  | n + 1, w1, w2, G =>
    if (G 247 73) ≤ w2 then
      some (w1)
    else
      (x6_of w2 ((2 : Int32)) G).bind fun q_2 =>
      mNm (w1 + q_2) fun v_3 =>
      mNm (w2 + (1 : Int32)) fun v_4 =>
      x6_peatInTrains_L4 n v_3 v_4 G
def x6_peatInTrains (G : mM) : Option Int32 :=
  (x6_peatInTrains_L4 mFu ((0 : Int32)) ((0 : Int32)) G).bind fun q_5 =>
  some (q_5)
theorem hd6_peatInTrains : yX6_peatInTrains.cls = RX6 ∧ yX6_peatInTrains.cls ≠ "java/lang/invoke/MethodHandle" ∧ yX6_peatInTrains.cls ≠ "java/lang/invoke/VarHandle" ∧ (parseMethodDescriptor yX6_peatInTrains.desc).map (fun d => d.parameters.length) = some 0 := by decide +kernel
set_option maxHeartbeats 4000000 in
set_option maxRecDepth 100000 in
theorem k6_peatInTrains_4 {p : Program} {l : Launch} {e : Env} {R : Room} {s : State} {m : MethodId} {args : Array Value} {below : List Frame} {meth : Method} {cd : Code} {Q : State → Prop} {E : mE} (X : mX p s m args cd cX6_peatInTrains 3 RX6 E) (hR : 1 ≤ R.frames ∧ 22 ≤ R.locals) (hJ : mJ E) (hy0 : mMo E 246) : ∀ (n : Nat) (w1 : Int32) (w2 : Int32) (G : mM) (H : Heap) (locs : List Loc) (ls : Array Slot) (r : Int32), x6_peatInTrains_L4 n w1 w2 G = some r → mZ E s.heap H locs G → lv_has ls 3 [(0, .ref (mad E (246))), (1, .int (w1)), (2, .int (w2))] → (∀ (H : Heap) (locs : List Loc) (ls : Array Slot), mZ E s.heap H locs G → lv_has ls 3 [(0, .ref (mad E (246))), (1, .int (r))] → W p l e R s m args below meth cd H locs 0 0 Q (F0 m 30 ls [])) → W p l e R s m args below meth cd H locs 0 0 Q (F0 m 4 ls []) := by
  have hx := X.1
  have hb := X.2.1
  have hown := X.2.2.2.1
  have hts := X.2.2.2.2.1
  intro n
  induction n with
  | zero =>
    intro w1 w2 G H locs ls r hT
    rw [x6_peatInTrains_L4] at hT
    cases hT
  | succ n ih =>
    intro w1 w2 G H locs ls r hT Z hl k0
    rw [x6_peatInTrains_L4] at hT
    refine lv_iload_n hx hb dX6_peatInTrains_4 rfl (lv_at hl 2 rfl) ?_
    refine lv_aload_n hx hb dX6_peatInTrains_5 rfl (lv_at hl 0 rfl) ?_
    refine mx_get (v := .ref (mad E (247))) (ci := 6) (C := RX6) (T := TX6) (N := 11) X Z hy0.i (hy0.c _) rfl inlX6 0 (by decide) wd_7_23 rfl dX6_peatInTrains_6 ?_
    refine lv_bipush (v := (73 : Int32)) hx hb dX6_peatInTrains_9 (by decide) ?_
    refine mx_iald X Z hy0.z (mx_lit (by decide)) dX6_peatInTrains_11 ?_
    refine mx_tops (s2 := [.int (G 247 73), .int (w2)]) rfl ?_
    refine lv_icmp_ge (tgt := 30) hx hb dX6_peatInTrains_12 (by decide) (fun h_1 => ?_) (fun h_1 => ?_)
    · replace hT := mx_t hT h_1
      cases hT
      exact k0 _ _ _ Z (lv_sub hl [0, 1] rfl)
    · replace hT := mx_f hT h_1
      refine lv_iload_n hx hb dX6_peatInTrains_15 rfl (lv_at hl 1 rfl) ?_
      refine lv_aload_n hx hb dX6_peatInTrains_16 rfl (lv_at hl 0 rfl) ?_
      refine lv_iload_n hx hb dX6_peatInTrains_17 rfl (lv_at hl 2 rfl) ?_
      refine lv_iconst (v := (2 : Int32)) hx hb dX6_peatInTrains_18 (by decide) ?_
      obtain ⟨q_2, h_q_2, hT⟩ := mx_bind hT
      refine mx_callV (As := [.int (w2), .int ((2 : Int32))]) (rest := [.int (w1)]) (st1 := [.int (q_2), .int (w1)]) (C := RX6) (T := TX6) (N := 11) (ci := 6) X Z hl.1 (c6_of l E hJ hy0 _ _ _ _ h_q_2) wd_13_11 wd_13_12 wd_13_13 wd_1_5 wd_13_14 hd6_of ⟨Nat.le_trans (by decide) hR.1, Nat.le_trans (by decide) hR.2⟩ ⟨Nat.zero_le _, Nat.zero_le _⟩ hy0.i (hy0.c _) rfl (Nat.le_of_ble_eq_true rfl) rfl rfl dX6_peatInTrains_19 (fun H locs Z => ?_)
      refine lv_iadd hx hb dX6_peatInTrains_22 ?_
      obtain ⟨v_3, e_v_3, hT⟩ := mx_nm hT
      refine mx_tops (congrArg (fun z => (.int (z) :: [] : List Value)) e_v_3) ?_
      refine lv_istore_n (lv' := [(1, .int (v_3)), (0, .ref (mad E (246))), (2, .int (w2))]) hx hb dX6_peatInTrains_23 rfl hl (by decide) rfl (fun ls hl => ?_)
      obtain ⟨v_4, e_v_4, hT⟩ := mx_nm hT
      refine lv_iinc (v := v_4) (lv' := [(2, .int (v_4)), (1, .int (v_3)), (0, .ref (mad E (246)))]) hx hb dX6_peatInTrains_24 hl (k := 2) rfl (by rw [← e_v_4]; rfl) (by decide) rfl (fun ls hl => ?_)
      refine lv_goto (tgt := 4) hx hb dX6_peatInTrains_27 (by decide) ?_
      exact ih _ _ _ _ _ _ _ hT Z (lv_sub hl [2, 1, 0] rfl) k0
set_option maxHeartbeats 4000000 in
set_option maxRecDepth 100000 in
theorem c6_peatInTrains (l : Launch) (E : mE) (hJ : mJ E) (hc : mMo E 246) (G : mM) (q : Int32) (hT : x6_peatInTrains G = some q) : mMet l E yX6_peatInTrains cX6_peatInTrains 3 (some .int) 1 22 [.ref (mad E (246))] G (some (.int q)) G := by
  refine Met.ofW (cc := cX6_peatInTrains) (maxL := 3) (ret := (some .int)) (by decide) rfl ?_
  intro p e s m args below meth cd s₁ B hml hv
  obtain ⟨rfl, hP, hK, hS⟩ := hv
  have X := mx_entry (own := RX6) B hml hK hJ hS rfl
  have hx := X.1
  have hb := X.2.1
  have hown := X.2.2.2.1
  have hts := X.2.2.2.2.1
  have hr := B.returns
  have hlocks := B.notSynchronized
  have hR : 1 ≤ (headSpec (mWs yX6_peatInTrains cX6_peatInTrains 3 (some .int)) ({ frames := 1, cells := 0, slots := 0, locals := 22 })).room.frames ∧ 22 ≤ (headSpec (mWs yX6_peatInTrains cX6_peatInTrains 3 (some .int)) ({ frames := 1, cells := 0, slots := 0, locals := 22 })).room.locals := ⟨Nat.le_refl _, Nat.le_refl _⟩
  have Z : mZ E s.heap s.heap [] G := ⟨hP, va_S.rf⟩
  have hl := lv_entry ([.ref (mad E (246))]) (n := 3) (Nat.le_of_ble_eq_true rfl)
  rw [lg_entry_eq]
  generalize (lg_sl ([.ref (mad E (246))]) ++ List.replicate (3 - (lg_sl ([.ref (mad E (246))])).length) Slot.unset).toArray = ls at hl ⊢
  have hl : lv_has ls 3 [(0, .ref (mad E (246)))] := hl
  unfold x6_peatInTrains at hT
  refine lv_iconst (v := (0 : Int32)) hx hb dX6_peatInTrains_0 (by decide) ?_
  refine lv_istore_n (lv' := [(1, .int ((0 : Int32))), (0, .ref (mad E (246)))]) hx hb dX6_peatInTrains_1 rfl hl (by decide) rfl (fun ls hl => ?_)
  refine lv_iconst (v := (0 : Int32)) hx hb dX6_peatInTrains_2 (by decide) ?_
  refine lv_istore_n (lv' := [(2, .int ((0 : Int32))), (1, .int ((0 : Int32))), (0, .ref (mad E (246)))]) hx hb dX6_peatInTrains_3 rfl hl (by decide) rfl (fun ls hl => ?_)
  obtain ⟨q_5, h_q_5, hT⟩ := mx_bind hT
  refine k6_peatInTrains_4 X hR hJ hc  _ _ _ _ _ _ _ _ h_q_5 Z (lv_sub (l' := [(0, .ref (mad E (246))), (1, .int ((0 : Int32))), (2, .int ((0 : Int32)))]) hl [2, 1, 0] rfl) (fun H locs ls Z hl => ?_)
  · refine lv_iload_n hx hb dX6_peatInTrains_30 rfl (lv_at hl 1 rfl) ?_
    cases hT
    exact W.iret hx hb hr (fun t ht hW => mx_end Z t ht _) Z.2.2.2 dX6_peatInTrains_31
/-! PeatRailwayModel.layTrack -/
def x6_layTrack_L47 : Nat → Int32 → mM → Option (mM)
  | 0, _, _ => none
  | n + 1, w1, G =>
    if (G 246 6) ≤ w1 then
      some (G)
    else
      mCk (mIn w1 40) <|
      (x6_within (G 251 w1.toNatClampNeg) ((48 : Int32)) ((57 : Int32)) G).bind fun q_10 =>
      if q_10 = 0 then
        mCk (mIn w1 40) <|
        if (G 251 w1.toNatClampNeg) = ((112 : Int32)) then
          mCk (mIn ((((0 : Int32)) + (((3 : Int32)) * ((G 247 72) - ((1 : Int32))))) + ((1 : Int32))) 82) <|
          mNm (up2 G 247 (((((0 : Int32)) + (((3 : Int32)) * ((G 247 72) - ((1 : Int32))))) + ((1 : Int32))).toNatClampNeg) ((1 : Int32))) fun G_16 =>
          mNm (w1 + (1 : Int32)) fun v_17 =>
          x6_layTrack_L47 n v_17 G_16
        else
          mNm (w1 + (1 : Int32)) fun v_14 =>
          x6_layTrack_L47 n v_14 G
      else
        mCk (mIn w1 40) <|
        if (G 247 72) = 0 then
          (x6_putSegment (G 247 72) ((G 251 w1.toNatClampNeg) - ((48 : Int32))) ((1 : Int32)) G).bind fun q_23 =>
          mNm (up2 q_23 247 72 ((q_23 247 72) + ((1 : Int32)))) fun G_24 =>
          mNm (w1 + (1 : Int32)) fun v_25 =>
          x6_layTrack_L47 n v_25 G_24
        else
          (x6_putSegment (G 247 72) ((G 251 w1.toNatClampNeg) - ((48 : Int32))) ((0 : Int32)) G).bind fun q_20 =>
          mNm (up2 q_20 247 72 ((q_20 247 72) + ((1 : Int32)))) fun G_21 =>
          mNm (w1 + (1 : Int32)) fun v_22 =>
          x6_layTrack_L47 n v_22 G_21
def x6_layTrack (G : mM) : Option (Int32 × mM) :=
  (x6_faultNow G).bind fun q_1 =>
  if q_1.1 = ((-1 : Int32)) then
    (x6_record q_1.2).bind fun q_3 =>
    (x6_peatInTrains q_3).bind fun q_4 =>
    mNm (up2 q_3 247 81 ((q_3 247 81) + q_4)) fun G_5 =>
    mNm (up2 G_5 247 73 ((0 : Int32))) fun G_6 =>
    mNm (up2 G_6 247 72 ((0 : Int32))) fun G_7 =>
    (x6_layTrack_L47 mFu ((0 : Int32)) G_7).bind fun q_26 =>
    mCk (mIn ((((0 : Int32)) + (((3 : Int32)) * ((q_26 247 72) - ((1 : Int32))))) + ((1 : Int32))) 82) <|
    mNm (up2 q_26 247 (((((0 : Int32)) + (((3 : Int32)) * ((q_26 247 72) - ((1 : Int32))))) + ((1 : Int32))).toNatClampNeg) ((1 : Int32))) fun G_28 =>
    mNm (up2 G_28 246 6 ((0 : Int32))) fun G_29 =>
    some (G_29 247 72, G_29)
  else
    some ((-3 : Int32), q_1.2)
theorem hd6_layTrack : yX6_layTrack.cls = RX6 ∧ yX6_layTrack.cls ≠ "java/lang/invoke/MethodHandle" ∧ yX6_layTrack.cls ≠ "java/lang/invoke/VarHandle" ∧ (parseMethodDescriptor yX6_layTrack.desc).map (fun d => d.parameters.length) = some 0 := by decide +kernel
set_option maxHeartbeats 4000000 in
set_option maxRecDepth 100000 in
theorem k6_layTrack_47 {p : Program} {l : Launch} {e : Env} {R : Room} {s : State} {m : MethodId} {args : Array Value} {below : List Frame} {meth : Method} {cd : Code} {Q : State → Prop} {E : mE} (X : mX p s m args cd cX6_layTrack 2 RX6 E) (hR : 3 ≤ R.frames ∧ 65 ≤ R.locals) (hJ : mJ E) (hy0 : mMo E 246) : ∀ (n : Nat) (w1 : Int32) (G : mM) (H : Heap) (locs : List Loc) (ls : Array Slot) (r : mM), x6_layTrack_L47 n w1 G = some r → mZ E s.heap H locs G → lv_has ls 2 [(0, .ref (mad E (246))), (1, .int (w1))] → (∀ (H : Heap) (locs : List Loc) (ls : Array Slot), mZ E s.heap H locs r → lv_has ls 2 [(0, .ref (mad E (246)))] → W p l e R s m args below meth cd H locs 0 0 Q (F0 m 158 ls [])) → W p l e R s m args below meth cd H locs 0 0 Q (F0 m 47 ls []) := by
  have hx := X.1
  have hb := X.2.1
  have hown := X.2.2.2.1
  have hts := X.2.2.2.2.1
  intro n
  induction n with
  | zero =>
    intro w1 G H locs ls r hT
    rw [x6_layTrack_L47] at hT
    cases hT
  | succ n ih =>
    intro w1 G H locs ls r hT Z hl k0
    rw [x6_layTrack_L47] at hT
    refine lv_iload_n hx hb dX6_layTrack_47 rfl (lv_at hl 1 rfl) ?_
    refine lv_aload_n hx hb dX6_layTrack_48 rfl (lv_at hl 0 rfl) ?_
    refine mx_get (v := .int (G 246 6)) (ci := 6) (C := RX6) (T := TX6) (N := 11) X Z hy0.i (hy0.c _) rfl inlX6 6 (by decide) wd_9_0 rfl dX6_layTrack_49 ?_
    refine lv_icmp_ge (tgt := 158) hx hb dX6_layTrack_52 (by decide) (fun h_8 => ?_) (fun h_8 => ?_)
    · replace hT := mx_t hT h_8
      cases hT
      exact k0 _ _ _ Z (lv_sub hl [0] rfl)
    · replace hT := mx_f hT h_8
      refine lv_aload_n hx hb dX6_layTrack_55 rfl (lv_at hl 0 rfl) ?_
      refine mx_get (v := .ref (mad E (251))) (ci := 6) (C := RX6) (T := TX6) (N := 11) X Z hy0.i (hy0.c _) rfl inlX6 7 (by decide) wd_8_3 rfl dX6_layTrack_56 ?_
      refine lv_iload_n hx hb dX6_layTrack_59 rfl (lv_at hl 1 rfl) ?_
      obtain ⟨h_9, hT⟩ := mx_chk hT
      refine mx_iald X Z hy0.text h_9 dX6_layTrack_60 ?_
      refine lv_bipush (v := (48 : Int32)) hx hb dX6_layTrack_61 (by decide) ?_
      refine lv_bipush (v := (57 : Int32)) hx hb dX6_layTrack_63 (by decide) ?_
      obtain ⟨q_10, h_q_10, hT⟩ := mx_bind hT
      refine mx_callS (As := [.int (G 251 w1.toNatClampNeg), .int ((48 : Int32)), .int ((57 : Int32))]) (rest := []) (st1 := [.int (q_10)]) X Z hl.1 (c6_within l E hJ _ _ _ _ _ h_q_10) wd_9_1 wd_9_2 wd_1_5 wd_9_3 hd6_within ⟨Nat.le_trans (by decide) hR.1, Nat.le_trans (by decide) hR.2⟩ ⟨Nat.zero_le _, Nat.zero_le _⟩ (Nat.le_of_ble_eq_true rfl) rfl rfl dX6_layTrack_65 (fun H locs Z => ?_)
      refine lv_if_eq (tgt := 120) hx hb dX6_layTrack_68 (by decide) (fun h_11 => ?_) (fun h_11 => ?_)
      · replace hT := mx_t hT h_11
        refine lv_aload_n hx hb dX6_layTrack_120 rfl (lv_at hl 0 rfl) ?_
        refine mx_get (v := .ref (mad E (251))) (ci := 6) (C := RX6) (T := TX6) (N := 11) X Z hy0.i (hy0.c _) rfl inlX6 7 (by decide) wd_8_3 rfl dX6_layTrack_121 ?_
        refine lv_iload_n hx hb dX6_layTrack_124 rfl (lv_at hl 1 rfl) ?_
        obtain ⟨h_12, hT⟩ := mx_chk hT
        refine mx_iald X Z hy0.text h_12 dX6_layTrack_125 ?_
        refine lv_bipush (v := (112 : Int32)) hx hb dX6_layTrack_126 (by decide) ?_
        refine lv_icmp_ne (tgt := 152) hx hb dX6_layTrack_128 (by decide) (fun h_13 => ?_) (fun h_13 => ?_)
        · replace hT := mx_f hT h_13
          obtain ⟨v_14, e_v_14, hT⟩ := mx_nm hT
          refine lv_iinc (v := v_14) (lv' := [(1, .int (v_14)), (0, .ref (mad E (246)))]) hx hb dX6_layTrack_152 hl (k := 1) rfl (by rw [← e_v_14]; rfl) (by decide) rfl (fun ls hl => ?_)
          refine lv_goto (tgt := 47) hx hb dX6_layTrack_155 (by decide) ?_
          exact ih _ _ _ _ _ _ hT Z (lv_sub hl [1, 0] rfl) k0
        · replace hT := mx_t hT h_13
          refine lv_aload_n hx hb dX6_layTrack_131 rfl (lv_at hl 0 rfl) ?_
          refine mx_get (v := .ref (mad E (247))) (ci := 6) (C := RX6) (T := TX6) (N := 11) X Z hy0.i (hy0.c _) rfl inlX6 0 (by decide) wd_7_23 rfl dX6_layTrack_132 ?_
          refine lv_iconst (v := (0 : Int32)) hx hb dX6_layTrack_135 (by decide) ?_
          refine lv_iconst (v := (3 : Int32)) hx hb dX6_layTrack_136 (by decide) ?_
          refine lv_aload_n hx hb dX6_layTrack_137 rfl (lv_at hl 0 rfl) ?_
          refine mx_get (v := .ref (mad E (247))) (ci := 6) (C := RX6) (T := TX6) (N := 11) X Z hy0.i (hy0.c _) rfl inlX6 0 (by decide) wd_7_23 rfl dX6_layTrack_138 ?_
          refine lv_bipush (v := (72 : Int32)) hx hb dX6_layTrack_141 (by decide) ?_
          refine mx_iald X Z hy0.z (mx_lit (by decide)) dX6_layTrack_143 ?_
          refine mx_tops (s2 := [.int (G 247 72), .int ((3 : Int32)), .int ((0 : Int32)), .ref (mad E (247))]) rfl ?_
          refine lv_iconst (v := (1 : Int32)) hx hb dX6_layTrack_144 (by decide) ?_
          refine lv_isub hx hb dX6_layTrack_145 ?_
          refine lv_imul hx hb dX6_layTrack_146 ?_
          refine lv_iadd hx hb dX6_layTrack_147 ?_
          refine lv_iconst (v := (1 : Int32)) hx hb dX6_layTrack_148 (by decide) ?_
          refine lv_iadd hx hb dX6_layTrack_149 ?_
          refine lv_iconst (v := (1 : Int32)) hx hb dX6_layTrack_150 (by decide) ?_
          obtain ⟨h_15, hT⟩ := mx_chk hT
          obtain ⟨G_16, e_G_16, hT⟩ := mx_nm hT
          refine mx_iast X Z hy0.z h_15 dX6_layTrack_151 (fun H locs Z => ?_)
          rw [e_G_16] at Z
          obtain ⟨v_17, e_v_17, hT⟩ := mx_nm hT
          refine lv_iinc (v := v_17) (lv' := [(1, .int (v_17)), (0, .ref (mad E (246)))]) hx hb dX6_layTrack_152 hl (k := 1) rfl (by rw [← e_v_17]; rfl) (by decide) rfl (fun ls hl => ?_)
          refine lv_goto (tgt := 47) hx hb dX6_layTrack_155 (by decide) ?_
          exact ih _ _ _ _ _ _ hT Z (lv_sub hl [1, 0] rfl) k0
      · replace hT := mx_f hT h_11
        refine lv_aload_n hx hb dX6_layTrack_71 rfl (lv_at hl 0 rfl) ?_
        refine lv_aload_n hx hb dX6_layTrack_72 rfl (lv_at hl 0 rfl) ?_
        refine mx_get (v := .ref (mad E (247))) (ci := 6) (C := RX6) (T := TX6) (N := 11) X Z hy0.i (hy0.c _) rfl inlX6 0 (by decide) wd_7_23 rfl dX6_layTrack_73 ?_
        refine lv_bipush (v := (72 : Int32)) hx hb dX6_layTrack_76 (by decide) ?_
        refine mx_iald X Z hy0.z (mx_lit (by decide)) dX6_layTrack_78 ?_
        refine mx_tops (s2 := [.int (G 247 72), .ref (mad E (246))]) rfl ?_
        refine lv_aload_n hx hb dX6_layTrack_79 rfl (lv_at hl 0 rfl) ?_
        refine mx_get (v := .ref (mad E (251))) (ci := 6) (C := RX6) (T := TX6) (N := 11) X Z hy0.i (hy0.c _) rfl inlX6 7 (by decide) wd_8_3 rfl dX6_layTrack_80 ?_
        refine lv_iload_n hx hb dX6_layTrack_83 rfl (lv_at hl 1 rfl) ?_
        obtain ⟨h_18, hT⟩ := mx_chk hT
        refine mx_iald X Z hy0.text h_18 dX6_layTrack_84 ?_
        refine lv_bipush (v := (48 : Int32)) hx hb dX6_layTrack_85 (by decide) ?_
        refine lv_isub hx hb dX6_layTrack_87 ?_
        refine lv_aload_n hx hb dX6_layTrack_88 rfl (lv_at hl 0 rfl) ?_
        refine mx_get (v := .ref (mad E (247))) (ci := 6) (C := RX6) (T := TX6) (N := 11) X Z hy0.i (hy0.c _) rfl inlX6 0 (by decide) wd_7_23 rfl dX6_layTrack_89 ?_
        refine lv_bipush (v := (72 : Int32)) hx hb dX6_layTrack_92 (by decide) ?_
        refine mx_iald X Z hy0.z (mx_lit (by decide)) dX6_layTrack_94 ?_
        refine mx_tops (s2 := [.int (G 247 72), .int ((G 251 w1.toNatClampNeg) - ((48 : Int32))), .int (G 247 72), .ref (mad E (246))]) rfl ?_
        refine lv_if_ne (tgt := 102) hx hb dX6_layTrack_95 (by decide) (fun h_19 => ?_) (fun h_19 => ?_)
        · replace hT := mx_f hT h_19
          refine lv_iconst (v := (0 : Int32)) hx hb dX6_layTrack_102 (by decide) ?_
          obtain ⟨q_20, h_q_20, hT⟩ := mx_bind hT
          refine mx_callV (As := [.int (G 247 72), .int ((G 251 w1.toNatClampNeg) - ((48 : Int32))), .int ((0 : Int32))]) (rest := []) (st1 := []) (C := RX6) (T := TX6) (N := 11) (ci := 6) X Z hl.1 (c6_putSegment l E hJ hy0 _ _ _ _ _ h_q_20) wd_8_4 wd_8_5 wd_8_6 wd_1_5 wd_8_7 hd6_putSegment ⟨Nat.le_trans (by decide) hR.1, Nat.le_trans (by decide) hR.2⟩ ⟨Nat.zero_le _, Nat.zero_le _⟩ hy0.i (hy0.c _) rfl (Nat.le_of_ble_eq_true rfl) rfl rfl dX6_layTrack_103 (fun H locs Z => ?_)
          refine lv_aload_n hx hb dX6_layTrack_106 rfl (lv_at hl 0 rfl) ?_
          refine mx_get (v := .ref (mad E (247))) (ci := 6) (C := RX6) (T := TX6) (N := 11) X Z hy0.i (hy0.c _) rfl inlX6 0 (by decide) wd_7_23 rfl dX6_layTrack_107 ?_
          refine lv_bipush (v := (72 : Int32)) hx hb dX6_layTrack_110 (by decide) ?_
          refine lv_dup2_11 hx hb dX6_layTrack_112 rfl rfl ?_
          refine mx_iald X Z hy0.z (mx_lit (by decide)) dX6_layTrack_113 ?_
          refine mx_tops (s2 := [.int (q_20 247 72), .int ((72 : Int32)), .ref (mad E (247))]) rfl ?_
          refine lv_iconst (v := (1 : Int32)) hx hb dX6_layTrack_114 (by decide) ?_
          refine lv_iadd hx hb dX6_layTrack_115 ?_
          obtain ⟨G_21, e_G_21, hT⟩ := mx_nm hT
          refine mx_iast X Z hy0.z (mx_lit (by decide)) dX6_layTrack_116 (fun H locs Z => ?_)
          replace Z : mZ E s.heap H locs (up2 q_20 247 72 ((q_20 247 72) + ((1 : Int32)))) := Z
          rw [e_G_21] at Z
          refine lv_goto (tgt := 152) hx hb dX6_layTrack_117 (by decide) ?_
          obtain ⟨v_22, e_v_22, hT⟩ := mx_nm hT
          refine lv_iinc (v := v_22) (lv' := [(1, .int (v_22)), (0, .ref (mad E (246)))]) hx hb dX6_layTrack_152 hl (k := 1) rfl (by rw [← e_v_22]; rfl) (by decide) rfl (fun ls hl => ?_)
          refine lv_goto (tgt := 47) hx hb dX6_layTrack_155 (by decide) ?_
          exact ih _ _ _ _ _ _ hT Z (lv_sub hl [1, 0] rfl) k0
        · replace hT := mx_t hT h_19
          refine lv_iconst (v := (1 : Int32)) hx hb dX6_layTrack_98 (by decide) ?_
          refine lv_goto (tgt := 103) hx hb dX6_layTrack_99 (by decide) ?_
          obtain ⟨q_23, h_q_23, hT⟩ := mx_bind hT
          refine mx_callV (As := [.int (G 247 72), .int ((G 251 w1.toNatClampNeg) - ((48 : Int32))), .int ((1 : Int32))]) (rest := []) (st1 := []) (C := RX6) (T := TX6) (N := 11) (ci := 6) X Z hl.1 (c6_putSegment l E hJ hy0 _ _ _ _ _ h_q_23) wd_8_4 wd_8_5 wd_8_6 wd_1_5 wd_8_7 hd6_putSegment ⟨Nat.le_trans (by decide) hR.1, Nat.le_trans (by decide) hR.2⟩ ⟨Nat.zero_le _, Nat.zero_le _⟩ hy0.i (hy0.c _) rfl (Nat.le_of_ble_eq_true rfl) rfl rfl dX6_layTrack_103 (fun H locs Z => ?_)
          refine lv_aload_n hx hb dX6_layTrack_106 rfl (lv_at hl 0 rfl) ?_
          refine mx_get (v := .ref (mad E (247))) (ci := 6) (C := RX6) (T := TX6) (N := 11) X Z hy0.i (hy0.c _) rfl inlX6 0 (by decide) wd_7_23 rfl dX6_layTrack_107 ?_
          refine lv_bipush (v := (72 : Int32)) hx hb dX6_layTrack_110 (by decide) ?_
          refine lv_dup2_11 hx hb dX6_layTrack_112 rfl rfl ?_
          refine mx_iald X Z hy0.z (mx_lit (by decide)) dX6_layTrack_113 ?_
          refine mx_tops (s2 := [.int (q_23 247 72), .int ((72 : Int32)), .ref (mad E (247))]) rfl ?_
          refine lv_iconst (v := (1 : Int32)) hx hb dX6_layTrack_114 (by decide) ?_
          refine lv_iadd hx hb dX6_layTrack_115 ?_
          obtain ⟨G_24, e_G_24, hT⟩ := mx_nm hT
          refine mx_iast X Z hy0.z (mx_lit (by decide)) dX6_layTrack_116 (fun H locs Z => ?_)
          replace Z : mZ E s.heap H locs (up2 q_23 247 72 ((q_23 247 72) + ((1 : Int32)))) := Z
          rw [e_G_24] at Z
          refine lv_goto (tgt := 152) hx hb dX6_layTrack_117 (by decide) ?_
          obtain ⟨v_25, e_v_25, hT⟩ := mx_nm hT
          refine lv_iinc (v := v_25) (lv' := [(1, .int (v_25)), (0, .ref (mad E (246)))]) hx hb dX6_layTrack_152 hl (k := 1) rfl (by rw [← e_v_25]; rfl) (by decide) rfl (fun ls hl => ?_)
          refine lv_goto (tgt := 47) hx hb dX6_layTrack_155 (by decide) ?_
          exact ih _ _ _ _ _ _ hT Z (lv_sub hl [1, 0] rfl) k0
set_option maxHeartbeats 4000000 in
set_option maxRecDepth 100000 in
theorem c6_layTrack (l : Launch) (E : mE) (hJ : mJ E) (hc : mMo E 246) (G : mM) (q : (Int32 × mM)) (hT : x6_layTrack G = some q) : mMet l E yX6_layTrack cX6_layTrack 2 (some .int) 3 65 [.ref (mad E (246))] G (some (.int q.1)) q.2 := by
  refine Met.ofW (cc := cX6_layTrack) (maxL := 2) (ret := (some .int)) (by decide) rfl ?_
  intro p e s m args below meth cd s₁ B hml hv
  obtain ⟨rfl, hP, hK, hS⟩ := hv
  have X := mx_entry (own := RX6) B hml hK hJ hS rfl
  have hx := X.1
  have hb := X.2.1
  have hown := X.2.2.2.1
  have hts := X.2.2.2.2.1
  have hr := B.returns
  have hlocks := B.notSynchronized
  have hR : 3 ≤ (headSpec (mWs yX6_layTrack cX6_layTrack 2 (some .int)) ({ frames := 3, cells := 0, slots := 0, locals := 65 })).room.frames ∧ 65 ≤ (headSpec (mWs yX6_layTrack cX6_layTrack 2 (some .int)) ({ frames := 3, cells := 0, slots := 0, locals := 65 })).room.locals := ⟨Nat.le_refl _, Nat.le_refl _⟩
  have Z : mZ E s.heap s.heap [] G := ⟨hP, va_S.rf⟩
  have hl := lv_entry ([.ref (mad E (246))]) (n := 2) (Nat.le_of_ble_eq_true rfl)
  rw [lg_entry_eq]
  generalize (lg_sl ([.ref (mad E (246))]) ++ List.replicate (2 - (lg_sl ([.ref (mad E (246))])).length) Slot.unset).toArray = ls at hl ⊢
  have hl : lv_has ls 2 [(0, .ref (mad E (246)))] := hl
  unfold x6_layTrack at hT
  refine lv_aload_n hx hb dX6_layTrack_0 rfl (lv_at hl 0 rfl) ?_
  obtain ⟨q_1, h_q_1, hT⟩ := mx_bind hT
  refine mx_callV (As := []) (rest := []) (st1 := [.int (q_1.1)]) (C := RX6) (T := TX6) (N := 11) (ci := 6) X Z hl.1 (c6_faultNow l E hJ hc _ _ h_q_1) wd_10_0 wd_10_1 wd_10_2 wd_1_5 wd_10_3 hd6_faultNow ⟨Nat.le_trans (by decide) hR.1, Nat.le_trans (by decide) hR.2⟩ ⟨Nat.zero_le _, Nat.zero_le _⟩ hc.i (hc.c _) rfl (Nat.le_of_ble_eq_true rfl) rfl rfl dX6_layTrack_1 (fun H locs Z => ?_)
  refine lv_iconst (v := (-1 : Int32)) hx hb dX6_layTrack_4 (by decide) ?_
  refine lv_icmp_eq (tgt := 11) hx hb dX6_layTrack_5 (by decide) (fun h_2 => ?_) (fun h_2 => ?_)
  · replace hT := mx_t hT h_2
    refine lv_aload_n hx hb dX6_layTrack_11 rfl (lv_at hl 0 rfl) ?_
    obtain ⟨q_3, h_q_3, hT⟩ := mx_bind hT
    refine mx_callV (As := []) (rest := []) (st1 := []) (C := RX6) (T := TX6) (N := 11) (ci := 6) X Z hl.1 (c6_record l E hJ hc _ _ h_q_3) wd_12_22 wd_12_23 wd_13_0 wd_1_5 wd_13_1 hd6_record ⟨Nat.le_trans (by decide) hR.1, Nat.le_trans (by decide) hR.2⟩ ⟨Nat.zero_le _, Nat.zero_le _⟩ hc.i (hc.c _) rfl (Nat.le_of_ble_eq_true rfl) rfl rfl dX6_layTrack_12 (fun H locs Z => ?_)
    refine lv_aload_n hx hb dX6_layTrack_15 rfl (lv_at hl 0 rfl) ?_
    refine mx_get (v := .ref (mad E (247))) (ci := 6) (C := RX6) (T := TX6) (N := 11) X Z hc.i (hc.c _) rfl inlX6 0 (by decide) wd_7_23 rfl dX6_layTrack_16 ?_
    refine lv_bipush (v := (81 : Int32)) hx hb dX6_layTrack_19 (by decide) ?_
    refine lv_dup2_11 hx hb dX6_layTrack_21 rfl rfl ?_
    refine mx_iald X Z hc.z (mx_lit (by decide)) dX6_layTrack_22 ?_
    refine mx_tops (s2 := [.int (q_3 247 81), .int ((81 : Int32)), .ref (mad E (247))]) rfl ?_
    refine lv_aload_n hx hb dX6_layTrack_23 rfl (lv_at hl 0 rfl) ?_
    obtain ⟨q_4, h_q_4, hT⟩ := mx_bind hT
    refine mx_callV (As := []) (rest := [.int (q_3 247 81), .int ((81 : Int32)), .ref (mad E (247))]) (st1 := [.int (q_4), .int (q_3 247 81), .int ((81 : Int32)), .ref (mad E (247))]) (C := RX6) (T := TX6) (N := 11) (ci := 6) X Z hl.1 (c6_peatInTrains l E hJ hc _ _ h_q_4) wd_13_7 wd_13_8 wd_13_9 wd_1_5 wd_13_10 hd6_peatInTrains ⟨Nat.le_trans (by decide) hR.1, Nat.le_trans (by decide) hR.2⟩ ⟨Nat.zero_le _, Nat.zero_le _⟩ hc.i (hc.c _) rfl (Nat.le_of_ble_eq_true rfl) rfl rfl dX6_layTrack_24 (fun H locs Z => ?_)
    refine lv_iadd hx hb dX6_layTrack_27 ?_
    obtain ⟨G_5, e_G_5, hT⟩ := mx_nm hT
    refine mx_iast X Z hc.z (mx_lit (by decide)) dX6_layTrack_28 (fun H locs Z => ?_)
    replace Z : mZ E s.heap H locs (up2 q_3 247 81 ((q_3 247 81) + q_4)) := Z
    rw [e_G_5] at Z
    refine lv_aload_n hx hb dX6_layTrack_29 rfl (lv_at hl 0 rfl) ?_
    refine mx_get (v := .ref (mad E (247))) (ci := 6) (C := RX6) (T := TX6) (N := 11) X Z hc.i (hc.c _) rfl inlX6 0 (by decide) wd_7_23 rfl dX6_layTrack_30 ?_
    refine lv_bipush (v := (73 : Int32)) hx hb dX6_layTrack_33 (by decide) ?_
    refine lv_iconst (v := (0 : Int32)) hx hb dX6_layTrack_35 (by decide) ?_
    obtain ⟨G_6, e_G_6, hT⟩ := mx_nm hT
    refine mx_iast X Z hc.z (mx_lit (by decide)) dX6_layTrack_36 (fun H locs Z => ?_)
    replace Z : mZ E s.heap H locs (up2 G_5 247 73 ((0 : Int32))) := Z
    rw [e_G_6] at Z
    refine lv_aload_n hx hb dX6_layTrack_37 rfl (lv_at hl 0 rfl) ?_
    refine mx_get (v := .ref (mad E (247))) (ci := 6) (C := RX6) (T := TX6) (N := 11) X Z hc.i (hc.c _) rfl inlX6 0 (by decide) wd_7_23 rfl dX6_layTrack_38 ?_
    refine lv_bipush (v := (72 : Int32)) hx hb dX6_layTrack_41 (by decide) ?_
    refine lv_iconst (v := (0 : Int32)) hx hb dX6_layTrack_43 (by decide) ?_
    obtain ⟨G_7, e_G_7, hT⟩ := mx_nm hT
    refine mx_iast X Z hc.z (mx_lit (by decide)) dX6_layTrack_44 (fun H locs Z => ?_)
    replace Z : mZ E s.heap H locs (up2 G_6 247 72 ((0 : Int32))) := Z
    rw [e_G_7] at Z
    refine lv_iconst (v := (0 : Int32)) hx hb dX6_layTrack_45 (by decide) ?_
    refine lv_istore_n (lv' := [(1, .int ((0 : Int32))), (0, .ref (mad E (246)))]) hx hb dX6_layTrack_46 rfl hl (by decide) rfl (fun ls hl => ?_)
    obtain ⟨q_26, h_q_26, hT⟩ := mx_bind hT
    refine k6_layTrack_47 X hR hJ hc  _ _ _ _ _ _ _ h_q_26 Z (lv_sub (l' := [(0, .ref (mad E (246))), (1, .int ((0 : Int32)))]) hl [1, 0] rfl) (fun H locs ls Z hl => ?_)
    · refine lv_aload_n hx hb dX6_layTrack_158 rfl (lv_at hl 0 rfl) ?_
      refine mx_get (v := .ref (mad E (247))) (ci := 6) (C := RX6) (T := TX6) (N := 11) X Z hc.i (hc.c _) rfl inlX6 0 (by decide) wd_7_23 rfl dX6_layTrack_159 ?_
      refine lv_iconst (v := (0 : Int32)) hx hb dX6_layTrack_162 (by decide) ?_
      refine lv_iconst (v := (3 : Int32)) hx hb dX6_layTrack_163 (by decide) ?_
      refine lv_aload_n hx hb dX6_layTrack_164 rfl (lv_at hl 0 rfl) ?_
      refine mx_get (v := .ref (mad E (247))) (ci := 6) (C := RX6) (T := TX6) (N := 11) X Z hc.i (hc.c _) rfl inlX6 0 (by decide) wd_7_23 rfl dX6_layTrack_165 ?_
      refine lv_bipush (v := (72 : Int32)) hx hb dX6_layTrack_168 (by decide) ?_
      refine mx_iald X Z hc.z (mx_lit (by decide)) dX6_layTrack_170 ?_
      refine mx_tops (s2 := [.int (q_26 247 72), .int ((3 : Int32)), .int ((0 : Int32)), .ref (mad E (247))]) rfl ?_
      refine lv_iconst (v := (1 : Int32)) hx hb dX6_layTrack_171 (by decide) ?_
      refine lv_isub hx hb dX6_layTrack_172 ?_
      refine lv_imul hx hb dX6_layTrack_173 ?_
      refine lv_iadd hx hb dX6_layTrack_174 ?_
      refine lv_iconst (v := (1 : Int32)) hx hb dX6_layTrack_175 (by decide) ?_
      refine lv_iadd hx hb dX6_layTrack_176 ?_
      refine lv_iconst (v := (1 : Int32)) hx hb dX6_layTrack_177 (by decide) ?_
      obtain ⟨h_27, hT⟩ := mx_chk hT
      obtain ⟨G_28, e_G_28, hT⟩ := mx_nm hT
      refine mx_iast X Z hc.z h_27 dX6_layTrack_178 (fun H locs Z => ?_)
      rw [e_G_28] at Z
      refine lv_aload_n hx hb dX6_layTrack_179 rfl (lv_at hl 0 rfl) ?_
      refine lv_iconst (v := (0 : Int32)) hx hb dX6_layTrack_180 (by decide) ?_
      obtain ⟨G_29, e_G_29, hT⟩ := mx_nm hT
      refine mx_put (ci := 6) (C := RX6) (T := TX6) (N := 11) X Z hc.i (hc.c _) rfl inlX6 tyX6 tyX6_ok nmX6 6 (by decide) wd_9_0 rfl rfl rfl (by show 6 < 11; decide) ((hc.c _).trans (congrArg (fun z => Sum.inr (6, z)) (sp_Mo_6 (mad E) _ _ _))) dX6_layTrack_181 (fun H locs Z => ?_)
      rw [e_G_29] at Z
      refine lv_aload_n hx hb dX6_layTrack_184 rfl (lv_at hl 0 rfl) ?_
      refine mx_get (v := .ref (mad E (247))) (ci := 6) (C := RX6) (T := TX6) (N := 11) X Z hc.i (hc.c _) rfl inlX6 0 (by decide) wd_7_23 rfl dX6_layTrack_185 ?_
      refine lv_bipush (v := (72 : Int32)) hx hb dX6_layTrack_188 (by decide) ?_
      refine mx_iald X Z hc.z (mx_lit (by decide)) dX6_layTrack_190 ?_
      refine mx_tops (s2 := [.int (G_29 247 72)]) rfl ?_
      cases hT
      exact W.iret hx hb hr (fun t ht hW => mx_end Z t ht _) Z.2.2.2 dX6_layTrack_191
  · replace hT := mx_f hT h_2
    refine lv_bipush (v := (-3 : Int32)) hx hb dX6_layTrack_8 (by decide) ?_
    cases hT
    exact W.iret hx hb hr (fun t ht hW => mx_end Z t ht _) Z.2.2.2 dX6_layTrack_10
/-! PeatRailwayModel.isValue -/
def x6_isValue (x0 : Int32) (x1 : Int32) (G : mM) : Option Int32 :=
  if x0 = 0 then
    (x6_within x1 ((10 : Int32)) ((900 : Int32)) G).bind fun q_2 =>
    mCk (mBl q_2) <|
    some (q_2)
  else
    if x0 = 1 then
      (x6_within x1 ((1 : Int32)) ((50 : Int32)) G).bind fun q_5 =>
      mCk (mBl q_5) <|
      some (q_5)
    else
      if x0 = 2 then
        (x6_within x1 ((0 : Int32)) ((2 : Int32)) G).bind fun q_8 =>
        mCk (mBl q_8) <|
        some (q_8)
      else
        some ((0 : Int32))
theorem hd6_isValue : yX6_isValue.cls ≠ "java/lang/invoke/MethodHandle" ∧ yX6_isValue.cls ≠ "java/lang/invoke/VarHandle" ∧ (parseMethodDescriptor yX6_isValue.desc).map (fun d => d.parameters.length) = some 2 := by decide +kernel
set_option maxHeartbeats 4000000 in
set_option maxRecDepth 100000 in
theorem c6_isValue (l : Launch) (E : mE) (hJ : mJ E) (x0 : Int32) (x1 : Int32) (G : mM) (q : Int32) (hT : x6_isValue x0 x1 G = some q) : mMet l E yX6_isValue cX6_isValue 2 (some .boolean) 1 22 [.int (x0), .int (x1)] G (some (.int q)) G := by
  refine Met.ofW (cc := cX6_isValue) (maxL := 2) (ret := (some .boolean)) (by decide) rfl ?_
  intro p e s m args below meth cd s₁ B hml hv
  obtain ⟨rfl, hP, hK, hS⟩ := hv
  have X := mx_entry (own := RX6) B hml hK hJ hS rfl
  have hx := X.1
  have hb := X.2.1
  have hown := X.2.2.2.1
  have hts := X.2.2.2.2.1
  have hr := B.returns
  have hlocks := B.notSynchronized
  have hR : 1 ≤ (headSpec (mWs yX6_isValue cX6_isValue 2 (some .boolean)) ({ frames := 1, cells := 0, slots := 0, locals := 22 })).room.frames ∧ 22 ≤ (headSpec (mWs yX6_isValue cX6_isValue 2 (some .boolean)) ({ frames := 1, cells := 0, slots := 0, locals := 22 })).room.locals := ⟨Nat.le_refl _, Nat.le_refl _⟩
  have Z : mZ E s.heap s.heap [] G := ⟨hP, va_S.rf⟩
  have hl := lv_entry ([.int (x0), .int (x1)]) (n := 2) (Nat.le_of_ble_eq_true rfl)
  rw [lg_entry_eq]
  generalize (lg_sl ([.int (x0), .int (x1)]) ++ List.replicate (2 - (lg_sl ([.int (x0), .int (x1)])).length) Slot.unset).toArray = ls at hl ⊢
  have hl : lv_has ls 2 [(0, .int (x0)), (1, .int (x1))] := hl
  unfold x6_isValue at hT
  refine lv_iload_n hx hb dX6_isValue_0 rfl (lv_at hl 0 rfl) ?_
  by_cases h_1 : x0 = 0
  · replace hT := mx_t hT h_1
    refine lv_tableIn (tgt := 28) hx hb dX6_isValue_1 (by rw [h_1]; decide) (by rw [h_1]; decide) (by rw [h_1]; rfl) (by decide) ?_
    refine lv_iload_n hx hb dX6_isValue_28 rfl (lv_at hl 1 rfl) ?_
    refine lv_bipush (v := (10 : Int32)) hx hb dX6_isValue_29 (by decide) ?_
    refine lv_sipush (v := (900 : Int32)) hx hb dX6_isValue_31 (by decide) ?_
    obtain ⟨q_2, h_q_2, hT⟩ := mx_bind hT
    refine mx_callS (As := [.int (x1), .int ((10 : Int32)), .int ((900 : Int32))]) (rest := []) (st1 := [.int (q_2)]) X Z hl.1 (c6_within l E hJ _ _ _ _ _ h_q_2) wd_9_1 wd_9_2 wd_1_5 wd_9_3 hd6_within ⟨Nat.le_trans (by decide) hR.1, Nat.le_trans (by decide) hR.2⟩ ⟨Nat.zero_le _, Nat.zero_le _⟩ (Nat.le_of_ble_eq_true rfl) rfl rfl dX6_isValue_34 (fun H locs Z => ?_)
    obtain ⟨h_3, hT⟩ := mx_chk hT
    cases hT
    exact W.zret hx hb hr (mBl.n h_3) (fun t ht hW => mx_end Z t ht _) Z.2.2.2 dX6_isValue_37
  · replace hT := mx_f hT h_1
    by_cases h_4 : x0 = 1
    · replace hT := mx_t hT h_4
      refine lv_tableIn (tgt := 38) hx hb dX6_isValue_1 (by rw [h_4]; decide) (by rw [h_4]; decide) (by rw [h_4]; rfl) (by decide) ?_
      refine lv_iload_n hx hb dX6_isValue_38 rfl (lv_at hl 1 rfl) ?_
      refine lv_iconst (v := (1 : Int32)) hx hb dX6_isValue_39 (by decide) ?_
      refine lv_bipush (v := (50 : Int32)) hx hb dX6_isValue_40 (by decide) ?_
      obtain ⟨q_5, h_q_5, hT⟩ := mx_bind hT
      refine mx_callS (As := [.int (x1), .int ((1 : Int32)), .int ((50 : Int32))]) (rest := []) (st1 := [.int (q_5)]) X Z hl.1 (c6_within l E hJ _ _ _ _ _ h_q_5) wd_9_1 wd_9_2 wd_1_5 wd_9_3 hd6_within ⟨Nat.le_trans (by decide) hR.1, Nat.le_trans (by decide) hR.2⟩ ⟨Nat.zero_le _, Nat.zero_le _⟩ (Nat.le_of_ble_eq_true rfl) rfl rfl dX6_isValue_42 (fun H locs Z => ?_)
      obtain ⟨h_6, hT⟩ := mx_chk hT
      cases hT
      exact W.zret hx hb hr (mBl.n h_6) (fun t ht hW => mx_end Z t ht _) Z.2.2.2 dX6_isValue_45
    · replace hT := mx_f hT h_4
      by_cases h_7 : x0 = 2
      · replace hT := mx_t hT h_7
        refine lv_tableIn (tgt := 46) hx hb dX6_isValue_1 (by rw [h_7]; decide) (by rw [h_7]; decide) (by rw [h_7]; rfl) (by decide) ?_
        refine lv_iload_n hx hb dX6_isValue_46 rfl (lv_at hl 1 rfl) ?_
        refine lv_iconst (v := (0 : Int32)) hx hb dX6_isValue_47 (by decide) ?_
        refine lv_iconst (v := (2 : Int32)) hx hb dX6_isValue_48 (by decide) ?_
        obtain ⟨q_8, h_q_8, hT⟩ := mx_bind hT
        refine mx_callS (As := [.int (x1), .int ((0 : Int32)), .int ((2 : Int32))]) (rest := []) (st1 := [.int (q_8)]) X Z hl.1 (c6_within l E hJ _ _ _ _ _ h_q_8) wd_9_1 wd_9_2 wd_1_5 wd_9_3 hd6_within ⟨Nat.le_trans (by decide) hR.1, Nat.le_trans (by decide) hR.2⟩ ⟨Nat.zero_le _, Nat.zero_le _⟩ (Nat.le_of_ble_eq_true rfl) rfl rfl dX6_isValue_49 (fun H locs Z => ?_)
        obtain ⟨h_9, hT⟩ := mx_chk hT
        cases hT
        exact W.zret hx hb hr (mBl.n h_9) (fun t ht hW => mx_end Z t ht _) Z.2.2.2 dX6_isValue_52
      · replace hT := mx_f hT h_7
        refine lv_tableOut (tgt := 53) hx hb dX6_isValue_1 (mx_out (n := 2) (by decide) (fun k hk => by rcases (show k = 0 ∨ k = 1 ∨ k = 2 by omega) with rfl | rfl | rfl <;> assumption)) (by decide) ?_
        refine lv_iconst (v := (0 : Int32)) hx hb dX6_isValue_53 (by decide) ?_
        cases hT
        exact W.zret (v := (0 : Int32)) hx hb hr rfl (fun t ht hW => mx_end Z t ht _) Z.2.2.2 dX6_isValue_54
/-! PeatRailwayModel.set -/
def x6_set (x1 : Int32) (x2 : Int32) (G : mM) : Option (Int32 × mM) :=
  (x6_isValue x1 x2 G).bind fun q_1 =>
  if q_1 = 0 then
    some ((-2 : Int32), G)
  else
    (x6_record G).bind fun q_3 =>
    (x6_other x1 q_3).bind fun q_4 =>
    mCk (mIn (((75 : Int32)) + x1) 82) <|
    mNm (up2 q_3 247 ((((75 : Int32)) + x1).toNatClampNeg) x2) fun G_6 =>
    some (q_4, G_6)
theorem hd6_set : yX6_set.cls = RX6 ∧ yX6_set.cls ≠ "java/lang/invoke/MethodHandle" ∧ yX6_set.cls ≠ "java/lang/invoke/VarHandle" ∧ (parseMethodDescriptor yX6_set.desc).map (fun d => d.parameters.length) = some 2 := by decide +kernel
set_option maxHeartbeats 4000000 in
set_option maxRecDepth 100000 in
theorem c6_set (l : Launch) (E : mE) (hJ : mJ E) (hc : mMo E 246) (x1 : Int32) (x2 : Int32) (G : mM) (q : (Int32 × mM)) (hT : x6_set x1 x2 G = some q) : mMet l E yX6_set cX6_set 4 (some .int) 2 46 [.ref (mad E (246)), .int (x1), .int (x2)] G (some (.int q.1)) q.2 := by
  refine Met.ofW (cc := cX6_set) (maxL := 4) (ret := (some .int)) (by decide) rfl ?_
  intro p e s m args below meth cd s₁ B hml hv
  obtain ⟨rfl, hP, hK, hS⟩ := hv
  have X := mx_entry (own := RX6) B hml hK hJ hS rfl
  have hx := X.1
  have hb := X.2.1
  have hown := X.2.2.2.1
  have hts := X.2.2.2.2.1
  have hr := B.returns
  have hlocks := B.notSynchronized
  have hR : 2 ≤ (headSpec (mWs yX6_set cX6_set 4 (some .int)) ({ frames := 2, cells := 0, slots := 0, locals := 46 })).room.frames ∧ 46 ≤ (headSpec (mWs yX6_set cX6_set 4 (some .int)) ({ frames := 2, cells := 0, slots := 0, locals := 46 })).room.locals := ⟨Nat.le_refl _, Nat.le_refl _⟩
  have Z : mZ E s.heap s.heap [] G := ⟨hP, va_S.rf⟩
  have hl := lv_entry ([.ref (mad E (246)), .int (x1), .int (x2)]) (n := 4) (Nat.le_of_ble_eq_true rfl)
  rw [lg_entry_eq]
  generalize (lg_sl ([.ref (mad E (246)), .int (x1), .int (x2)]) ++ List.replicate (4 - (lg_sl ([.ref (mad E (246)), .int (x1), .int (x2)])).length) Slot.unset).toArray = ls at hl ⊢
  have hl : lv_has ls 4 [(0, .ref (mad E (246))), (1, .int (x1)), (2, .int (x2))] := hl
  unfold x6_set at hT
  refine lv_iload_n hx hb dX6_set_0 rfl (lv_at hl 1 rfl) ?_
  refine lv_iload_n hx hb dX6_set_1 rfl (lv_at hl 2 rfl) ?_
  obtain ⟨q_1, h_q_1, hT⟩ := mx_bind hT
  refine mx_callS (As := [.int (x1), .int (x2)]) (rest := []) (st1 := [.int (q_1)]) X Z hl.1 (c6_isValue l E hJ _ _ _ _ h_q_1) wd_14_5 wd_14_6 wd_1_5 wd_14_7 hd6_isValue ⟨Nat.le_trans (by decide) hR.1, Nat.le_trans (by decide) hR.2⟩ ⟨Nat.zero_le _, Nat.zero_le _⟩ (Nat.le_of_ble_eq_true rfl) rfl rfl dX6_set_2 (fun H locs Z => ?_)
  refine lv_if_ne (tgt := 11) hx hb dX6_set_5 (by decide) (fun h_2 => ?_) (fun h_2 => ?_)
  · replace hT := mx_f hT h_2
    refine lv_aload_n hx hb dX6_set_11 rfl (lv_at hl 0 rfl) ?_
    obtain ⟨q_3, h_q_3, hT⟩ := mx_bind hT
    refine mx_callV (As := []) (rest := []) (st1 := []) (C := RX6) (T := TX6) (N := 11) (ci := 6) X Z hl.1 (c6_record l E hJ hc _ _ h_q_3) wd_12_22 wd_12_23 wd_13_0 wd_1_5 wd_13_1 hd6_record ⟨Nat.le_trans (by decide) hR.1, Nat.le_trans (by decide) hR.2⟩ ⟨Nat.zero_le _, Nat.zero_le _⟩ hc.i (hc.c _) rfl (Nat.le_of_ble_eq_true rfl) rfl rfl dX6_set_12 (fun H locs Z => ?_)
    refine lv_aload_n hx hb dX6_set_15 rfl (lv_at hl 0 rfl) ?_
    refine lv_iload_n hx hb dX6_set_16 rfl (lv_at hl 1 rfl) ?_
    obtain ⟨q_4, h_q_4, hT⟩ := mx_bind hT
    refine mx_callV (As := [.int (x1)]) (rest := []) (st1 := [.int (q_4)]) (C := RX6) (T := TX6) (N := 11) (ci := 6) X Z hl.1 (c6_other l E hJ hc _ _ _ h_q_4) wd_14_8 wd_14_9 wd_14_10 wd_1_5 wd_14_11 hd6_other ⟨Nat.le_trans (by decide) hR.1, Nat.le_trans (by decide) hR.2⟩ ⟨Nat.zero_le _, Nat.zero_le _⟩ hc.i (hc.c _) rfl (Nat.le_of_ble_eq_true rfl) rfl rfl dX6_set_17 (fun H locs Z => ?_)
    refine lv_istore_n (lv' := [(3, .int (q_4)), (0, .ref (mad E (246))), (1, .int (x1)), (2, .int (x2))]) hx hb dX6_set_20 rfl hl (by decide) rfl (fun ls hl => ?_)
    refine lv_aload_n hx hb dX6_set_21 rfl (lv_at hl 1 rfl) ?_
    refine mx_get (v := .ref (mad E (247))) (ci := 6) (C := RX6) (T := TX6) (N := 11) X Z hc.i (hc.c _) rfl inlX6 0 (by decide) wd_7_23 rfl dX6_set_22 ?_
    refine lv_bipush (v := (75 : Int32)) hx hb dX6_set_25 (by decide) ?_
    refine lv_iload_n hx hb dX6_set_27 rfl (lv_at hl 2 rfl) ?_
    refine lv_iadd hx hb dX6_set_28 ?_
    refine lv_iload_n hx hb dX6_set_29 rfl (lv_at hl 3 rfl) ?_
    obtain ⟨h_5, hT⟩ := mx_chk hT
    obtain ⟨G_6, e_G_6, hT⟩ := mx_nm hT
    refine mx_iast X Z hc.z h_5 dX6_set_30 (fun H locs Z => ?_)
    rw [e_G_6] at Z
    refine lv_iload_n hx hb dX6_set_31 rfl (lv_at hl 0 rfl) ?_
    cases hT
    exact W.iret hx hb hr (fun t ht hW => mx_end Z t ht _) Z.2.2.2 dX6_set_32
  · replace hT := mx_t hT h_2
    refine lv_bipush (v := (-2 : Int32)) hx hb dX6_set_8 (by decide) ?_
    cases hT
    exact W.iret hx hb hr (fun t ht hW => mx_end Z t ht _) Z.2.2.2 dX6_set_10
/-! PeatRailwayModel.dig -/
def x6_dig (x1 : Int32) (G : mM) : Option (Int32 × mM) :=
  (x6_within x1 ((1 : Int32)) ((1000 : Int32)) G).bind fun q_1 =>
  if q_1 = 0 then
    some ((-2 : Int32), G)
  else
    (x6_other ((4 : Int32)) G).bind fun q_3 =>
    if (q_3 + x1) ≤ ((5000 : Int32)) then
      (x6_record G).bind fun q_5 =>
      mNm (up2 q_5 247 78 ((q_5 247 78) + x1)) fun G_6 =>
      mNm (up2 G_6 247 79 ((G_6 247 79) + x1)) fun G_7 =>
      (x6_other ((4 : Int32)) G_7).bind fun q_8 =>
      some (q_8, G_7)
    else
      some ((-4 : Int32), G)
theorem hd6_dig : yX6_dig.cls = RX6 ∧ yX6_dig.cls ≠ "java/lang/invoke/MethodHandle" ∧ yX6_dig.cls ≠ "java/lang/invoke/VarHandle" ∧ (parseMethodDescriptor yX6_dig.desc).map (fun d => d.parameters.length) = some 1 := by decide +kernel
set_option maxHeartbeats 4000000 in
set_option maxRecDepth 100000 in
theorem c6_dig (l : Launch) (E : mE) (hJ : mJ E) (hc : mMo E 246) (x1 : Int32) (G : mM) (q : (Int32 × mM)) (hT : x6_dig x1 G = some q) : mMet l E yX6_dig cX6_dig 2 (some .int) 2 46 [.ref (mad E (246)), .int (x1)] G (some (.int q.1)) q.2 := by
  refine Met.ofW (cc := cX6_dig) (maxL := 2) (ret := (some .int)) (by decide) rfl ?_
  intro p e s m args below meth cd s₁ B hml hv
  obtain ⟨rfl, hP, hK, hS⟩ := hv
  have X := mx_entry (own := RX6) B hml hK hJ hS rfl
  have hx := X.1
  have hb := X.2.1
  have hown := X.2.2.2.1
  have hts := X.2.2.2.2.1
  have hr := B.returns
  have hlocks := B.notSynchronized
  have hR : 2 ≤ (headSpec (mWs yX6_dig cX6_dig 2 (some .int)) ({ frames := 2, cells := 0, slots := 0, locals := 46 })).room.frames ∧ 46 ≤ (headSpec (mWs yX6_dig cX6_dig 2 (some .int)) ({ frames := 2, cells := 0, slots := 0, locals := 46 })).room.locals := ⟨Nat.le_refl _, Nat.le_refl _⟩
  have Z : mZ E s.heap s.heap [] G := ⟨hP, va_S.rf⟩
  have hl := lv_entry ([.ref (mad E (246)), .int (x1)]) (n := 2) (Nat.le_of_ble_eq_true rfl)
  rw [lg_entry_eq]
  generalize (lg_sl ([.ref (mad E (246)), .int (x1)]) ++ List.replicate (2 - (lg_sl ([.ref (mad E (246)), .int (x1)])).length) Slot.unset).toArray = ls at hl ⊢
  have hl : lv_has ls 2 [(0, .ref (mad E (246))), (1, .int (x1))] := hl
  unfold x6_dig at hT
  refine lv_iload_n hx hb dX6_dig_0 rfl (lv_at hl 1 rfl) ?_
  refine lv_iconst (v := (1 : Int32)) hx hb dX6_dig_1 (by decide) ?_
  refine lv_sipush (v := (1000 : Int32)) hx hb dX6_dig_2 (by decide) ?_
  obtain ⟨q_1, h_q_1, hT⟩ := mx_bind hT
  refine mx_callS (As := [.int (x1), .int ((1 : Int32)), .int ((1000 : Int32))]) (rest := []) (st1 := [.int (q_1)]) X Z hl.1 (c6_within l E hJ _ _ _ _ _ h_q_1) wd_9_1 wd_9_2 wd_1_5 wd_9_3 hd6_within ⟨Nat.le_trans (by decide) hR.1, Nat.le_trans (by decide) hR.2⟩ ⟨Nat.zero_le _, Nat.zero_le _⟩ (Nat.le_of_ble_eq_true rfl) rfl rfl dX6_dig_5 (fun H locs Z => ?_)
  refine lv_if_ne (tgt := 14) hx hb dX6_dig_8 (by decide) (fun h_2 => ?_) (fun h_2 => ?_)
  · replace hT := mx_f hT h_2
    refine lv_aload_n hx hb dX6_dig_14 rfl (lv_at hl 0 rfl) ?_
    refine lv_iconst (v := (4 : Int32)) hx hb dX6_dig_15 (by decide) ?_
    obtain ⟨q_3, h_q_3, hT⟩ := mx_bind hT
    refine mx_callV (As := [.int ((4 : Int32))]) (rest := []) (st1 := [.int (q_3)]) (C := RX6) (T := TX6) (N := 11) (ci := 6) X Z hl.1 (c6_other l E hJ hc _ _ _ h_q_3) wd_14_8 wd_14_9 wd_14_10 wd_1_5 wd_14_11 hd6_other ⟨Nat.le_trans (by decide) hR.1, Nat.le_trans (by decide) hR.2⟩ ⟨Nat.zero_le _, Nat.zero_le _⟩ hc.i (hc.c _) rfl (Nat.le_of_ble_eq_true rfl) rfl rfl dX6_dig_16 (fun H locs Z => ?_)
    refine lv_iload_n hx hb dX6_dig_19 rfl (lv_at hl 1 rfl) ?_
    refine lv_iadd hx hb dX6_dig_20 ?_
    refine lv_sipush (v := (5000 : Int32)) hx hb dX6_dig_21 (by decide) ?_
    refine lv_icmp_le (tgt := 30) hx hb dX6_dig_24 (by decide) (fun h_4 => ?_) (fun h_4 => ?_)
    · replace hT := mx_t hT h_4
      refine lv_aload_n hx hb dX6_dig_30 rfl (lv_at hl 0 rfl) ?_
      obtain ⟨q_5, h_q_5, hT⟩ := mx_bind hT
      refine mx_callV (As := []) (rest := []) (st1 := []) (C := RX6) (T := TX6) (N := 11) (ci := 6) X Z hl.1 (c6_record l E hJ hc _ _ h_q_5) wd_12_22 wd_12_23 wd_13_0 wd_1_5 wd_13_1 hd6_record ⟨Nat.le_trans (by decide) hR.1, Nat.le_trans (by decide) hR.2⟩ ⟨Nat.zero_le _, Nat.zero_le _⟩ hc.i (hc.c _) rfl (Nat.le_of_ble_eq_true rfl) rfl rfl dX6_dig_31 (fun H locs Z => ?_)
      refine lv_aload_n hx hb dX6_dig_34 rfl (lv_at hl 0 rfl) ?_
      refine mx_get (v := .ref (mad E (247))) (ci := 6) (C := RX6) (T := TX6) (N := 11) X Z hc.i (hc.c _) rfl inlX6 0 (by decide) wd_7_23 rfl dX6_dig_35 ?_
      refine lv_bipush (v := (78 : Int32)) hx hb dX6_dig_38 (by decide) ?_
      refine lv_dup2_11 hx hb dX6_dig_40 rfl rfl ?_
      refine mx_iald X Z hc.z (mx_lit (by decide)) dX6_dig_41 ?_
      refine mx_tops (s2 := [.int (q_5 247 78), .int ((78 : Int32)), .ref (mad E (247))]) rfl ?_
      refine lv_iload_n hx hb dX6_dig_42 rfl (lv_at hl 1 rfl) ?_
      refine lv_iadd hx hb dX6_dig_43 ?_
      obtain ⟨G_6, e_G_6, hT⟩ := mx_nm hT
      refine mx_iast X Z hc.z (mx_lit (by decide)) dX6_dig_44 (fun H locs Z => ?_)
      replace Z : mZ E s.heap H locs (up2 q_5 247 78 ((q_5 247 78) + x1)) := Z
      rw [e_G_6] at Z
      refine lv_aload_n hx hb dX6_dig_45 rfl (lv_at hl 0 rfl) ?_
      refine mx_get (v := .ref (mad E (247))) (ci := 6) (C := RX6) (T := TX6) (N := 11) X Z hc.i (hc.c _) rfl inlX6 0 (by decide) wd_7_23 rfl dX6_dig_46 ?_
      refine lv_bipush (v := (79 : Int32)) hx hb dX6_dig_49 (by decide) ?_
      refine lv_dup2_11 hx hb dX6_dig_51 rfl rfl ?_
      refine mx_iald X Z hc.z (mx_lit (by decide)) dX6_dig_52 ?_
      refine mx_tops (s2 := [.int (G_6 247 79), .int ((79 : Int32)), .ref (mad E (247))]) rfl ?_
      refine lv_iload_n hx hb dX6_dig_53 rfl (lv_at hl 1 rfl) ?_
      refine lv_iadd hx hb dX6_dig_54 ?_
      obtain ⟨G_7, e_G_7, hT⟩ := mx_nm hT
      refine mx_iast X Z hc.z (mx_lit (by decide)) dX6_dig_55 (fun H locs Z => ?_)
      replace Z : mZ E s.heap H locs (up2 G_6 247 79 ((G_6 247 79) + x1)) := Z
      rw [e_G_7] at Z
      refine lv_aload_n hx hb dX6_dig_56 rfl (lv_at hl 0 rfl) ?_
      refine lv_iconst (v := (4 : Int32)) hx hb dX6_dig_57 (by decide) ?_
      obtain ⟨q_8, h_q_8, hT⟩ := mx_bind hT
      refine mx_callV (As := [.int ((4 : Int32))]) (rest := []) (st1 := [.int (q_8)]) (C := RX6) (T := TX6) (N := 11) (ci := 6) X Z hl.1 (c6_other l E hJ hc _ _ _ h_q_8) wd_14_8 wd_14_9 wd_14_10 wd_1_5 wd_14_11 hd6_other ⟨Nat.le_trans (by decide) hR.1, Nat.le_trans (by decide) hR.2⟩ ⟨Nat.zero_le _, Nat.zero_le _⟩ hc.i (hc.c _) rfl (Nat.le_of_ble_eq_true rfl) rfl rfl dX6_dig_58 (fun H locs Z => ?_)
      cases hT
      exact W.iret hx hb hr (fun t ht hW => mx_end Z t ht _) Z.2.2.2 dX6_dig_61
    · replace hT := mx_f hT h_4
      refine lv_bipush (v := (-4 : Int32)) hx hb dX6_dig_27 (by decide) ?_
      cases hT
      exact W.iret hx hb hr (fun t ht hW => mx_end Z t ht _) Z.2.2.2 dX6_dig_29
  · replace hT := mx_t hT h_2
    refine lv_bipush (v := (-2 : Int32)) hx hb dX6_dig_11 (by decide) ?_
    cases hT
    exact W.iret hx hb hr (fun t ht hW => mx_end Z t ht _) Z.2.2.2 dX6_dig_13
/-! PeatRailwayModel.addTrain -/
def x6_addTrain_L52 (y1 : Int32) (y2 : Int32) (y3 : Int32) : Nat → Int32 → mM → Option (mM)
  | 0, _, _ => none
  | n + 1, w4, G =>
    if ((9 : Int32)) ≤ w4 then
      some (G)
    else
      (x6_put y3 w4 ((0 : Int32)) G).bind fun q_9 =>
      mNm (w4 + (1 : Int32)) fun v_10 =>
      x6_addTrain_L52 y1 y2 y3 n v_10 q_9
def x6_addTrain (x1 : Int32) (x2 : Int32) (G : mM) : Option (Int32 × mM) :=
  (x6_within x1 ((1 : Int32)) ((6 : Int32)) G).bind fun q_1 =>
  if q_1 = 0 then
    some ((-2 : Int32), G)
  else
    (x6_within x2 ((1 : Int32)) ((20 : Int32)) G).bind fun q_3 =>
    if q_3 = 0 then
      some ((-2 : Int32), G)
    else
      if (G 247 73) = ((4 : Int32)) then
        some ((-4 : Int32), G)
      else
        (x6_record G).bind fun q_6 =>
        mNm (q_6 247 73) fun v_7 =>
        (x6_addTrain_L52 x1 x2 v_7 mFu ((0 : Int32)) q_6).bind fun q_11 =>
        (x6_put v_7 ((0 : Int32)) x1 q_11).bind fun q_12 =>
        (x6_put v_7 ((1 : Int32)) x2 q_12).bind fun q_13 =>
        mNm (up2 q_13 247 73 ((q_13 247 73) + ((1 : Int32)))) fun G_14 =>
        some (v_7, G_14)
theorem hd6_addTrain : yX6_addTrain.cls = RX6 ∧ yX6_addTrain.cls ≠ "java/lang/invoke/MethodHandle" ∧ yX6_addTrain.cls ≠ "java/lang/invoke/VarHandle" ∧ (parseMethodDescriptor yX6_addTrain.desc).map (fun d => d.parameters.length) = some 2 := by decide +kernel
set_option maxHeartbeats 4000000 in
set_option maxRecDepth 100000 in
theorem k6_addTrain_52 {p : Program} {l : Launch} {e : Env} {R : Room} {s : State} {m : MethodId} {args : Array Value} {below : List Frame} {meth : Method} {cd : Code} {Q : State → Prop} {E : mE} (X : mX p s m args cd cX6_addTrain 5 RX6 E) (hR : 2 ≤ R.frames ∧ 46 ≤ R.locals) (hJ : mJ E) (hy0 : mMo E 246) (y1 : Int32) (y2 : Int32) (y3 : Int32) : ∀ (n : Nat) (w4 : Int32) (G : mM) (H : Heap) (locs : List Loc) (ls : Array Slot) (r : mM), x6_addTrain_L52 y1 y2 y3 n w4 G = some r → mZ E s.heap H locs G → lv_has ls 5 [(0, .ref (mad E (246))), (1, .int (y1)), (2, .int (y2)), (3, .int (y3)), (4, .int (w4))] → (∀ (H : Heap) (locs : List Loc) (ls : Array Slot), mZ E s.heap H locs r → lv_has ls 5 [(0, .ref (mad E (246))), (1, .int (y1)), (2, .int (y2)), (3, .int (y3))] → W p l e R s m args below meth cd H locs 0 0 Q (F0 m 73 ls [])) → W p l e R s m args below meth cd H locs 0 0 Q (F0 m 52 ls []) := by
  have hx := X.1
  have hb := X.2.1
  have hown := X.2.2.2.1
  have hts := X.2.2.2.2.1
  intro n
  induction n with
  | zero =>
    intro w4 G H locs ls r hT
    rw [x6_addTrain_L52] at hT
    cases hT
  | succ n ih =>
    intro w4 G H locs ls r hT Z hl k0
    rw [x6_addTrain_L52] at hT
    refine lv_iload hx hb dX6_addTrain_52 (lv_at hl 4 rfl) ?_
    refine lv_bipush (v := (9 : Int32)) hx hb dX6_addTrain_54 (by decide) ?_
    refine lv_icmp_ge (tgt := 73) hx hb dX6_addTrain_56 (by decide) (fun h_8 => ?_) (fun h_8 => ?_)
    · replace hT := mx_t hT h_8
      cases hT
      exact k0 _ _ _ Z (lv_sub hl [0, 1, 2, 3] rfl)
    · replace hT := mx_f hT h_8
      refine lv_aload_n hx hb dX6_addTrain_59 rfl (lv_at hl 0 rfl) ?_
      refine lv_iload_n hx hb dX6_addTrain_60 rfl (lv_at hl 3 rfl) ?_
      refine lv_iload hx hb dX6_addTrain_61 (lv_at hl 4 rfl) ?_
      refine lv_iconst (v := (0 : Int32)) hx hb dX6_addTrain_63 (by decide) ?_
      obtain ⟨q_9, h_q_9, hT⟩ := mx_bind hT
      refine mx_callV (As := [.int (y3), .int (w4), .int ((0 : Int32))]) (rest := []) (st1 := []) (C := RX6) (T := TX6) (N := 11) (ci := 6) X Z hl.1 (c6_put l E hJ hy0 _ _ _ _ _ h_q_9) wd_15_18 wd_15_19 wd_15_20 wd_1_5 wd_15_21 hd6_put ⟨Nat.le_trans (by decide) hR.1, Nat.le_trans (by decide) hR.2⟩ ⟨Nat.zero_le _, Nat.zero_le _⟩ hy0.i (hy0.c _) rfl (Nat.le_of_ble_eq_true rfl) rfl rfl dX6_addTrain_64 (fun H locs Z => ?_)
      obtain ⟨v_10, e_v_10, hT⟩ := mx_nm hT
      refine lv_iinc (v := v_10) (lv' := [(4, .int (v_10)), (0, .ref (mad E (246))), (1, .int (y1)), (2, .int (y2)), (3, .int (y3))]) hx hb dX6_addTrain_67 hl (k := 4) rfl (by rw [← e_v_10]; rfl) (by decide) rfl (fun ls hl => ?_)
      refine lv_goto (tgt := 52) hx hb dX6_addTrain_70 (by decide) ?_
      exact ih _ _ _ _ _ _ hT Z (lv_sub hl [1, 2, 3, 4, 0] rfl) k0
set_option maxHeartbeats 4000000 in
set_option maxRecDepth 100000 in
theorem c6_addTrain (l : Launch) (E : mE) (hJ : mJ E) (hc : mMo E 246) (x1 : Int32) (x2 : Int32) (G : mM) (q : (Int32 × mM)) (hT : x6_addTrain x1 x2 G = some q) : mMet l E yX6_addTrain cX6_addTrain 5 (some .int) 2 46 [.ref (mad E (246)), .int (x1), .int (x2)] G (some (.int q.1)) q.2 := by
  refine Met.ofW (cc := cX6_addTrain) (maxL := 5) (ret := (some .int)) (by decide) rfl ?_
  intro p e s m args below meth cd s₁ B hml hv
  obtain ⟨rfl, hP, hK, hS⟩ := hv
  have X := mx_entry (own := RX6) B hml hK hJ hS rfl
  have hx := X.1
  have hb := X.2.1
  have hown := X.2.2.2.1
  have hts := X.2.2.2.2.1
  have hr := B.returns
  have hlocks := B.notSynchronized
  have hR : 2 ≤ (headSpec (mWs yX6_addTrain cX6_addTrain 5 (some .int)) ({ frames := 2, cells := 0, slots := 0, locals := 46 })).room.frames ∧ 46 ≤ (headSpec (mWs yX6_addTrain cX6_addTrain 5 (some .int)) ({ frames := 2, cells := 0, slots := 0, locals := 46 })).room.locals := ⟨Nat.le_refl _, Nat.le_refl _⟩
  have Z : mZ E s.heap s.heap [] G := ⟨hP, va_S.rf⟩
  have hl := lv_entry ([.ref (mad E (246)), .int (x1), .int (x2)]) (n := 5) (Nat.le_of_ble_eq_true rfl)
  rw [lg_entry_eq]
  generalize (lg_sl ([.ref (mad E (246)), .int (x1), .int (x2)]) ++ List.replicate (5 - (lg_sl ([.ref (mad E (246)), .int (x1), .int (x2)])).length) Slot.unset).toArray = ls at hl ⊢
  have hl : lv_has ls 5 [(0, .ref (mad E (246))), (1, .int (x1)), (2, .int (x2))] := hl
  unfold x6_addTrain at hT
  refine lv_iload_n hx hb dX6_addTrain_0 rfl (lv_at hl 1 rfl) ?_
  refine lv_iconst (v := (1 : Int32)) hx hb dX6_addTrain_1 (by decide) ?_
  refine lv_bipush (v := (6 : Int32)) hx hb dX6_addTrain_2 (by decide) ?_
  obtain ⟨q_1, h_q_1, hT⟩ := mx_bind hT
  refine mx_callS (As := [.int (x1), .int ((1 : Int32)), .int ((6 : Int32))]) (rest := []) (st1 := [.int (q_1)]) X Z hl.1 (c6_within l E hJ _ _ _ _ _ h_q_1) wd_9_1 wd_9_2 wd_1_5 wd_9_3 hd6_within ⟨Nat.le_trans (by decide) hR.1, Nat.le_trans (by decide) hR.2⟩ ⟨Nat.zero_le _, Nat.zero_le _⟩ (Nat.le_of_ble_eq_true rfl) rfl rfl dX6_addTrain_4 (fun H locs Z => ?_)
  refine lv_if_eq (tgt := 20) hx hb dX6_addTrain_7 (by decide) (fun h_2 => ?_) (fun h_2 => ?_)
  · replace hT := mx_t hT h_2
    refine lv_bipush (v := (-2 : Int32)) hx hb dX6_addTrain_20 (by decide) ?_
    cases hT
    exact W.iret hx hb hr (fun t ht hW => mx_end Z t ht _) Z.2.2.2 dX6_addTrain_22
  · replace hT := mx_f hT h_2
    refine lv_iload_n hx hb dX6_addTrain_10 rfl (lv_at hl 2 rfl) ?_
    refine lv_iconst (v := (1 : Int32)) hx hb dX6_addTrain_11 (by decide) ?_
    refine lv_bipush (v := (20 : Int32)) hx hb dX6_addTrain_12 (by decide) ?_
    obtain ⟨q_3, h_q_3, hT⟩ := mx_bind hT
    refine mx_callS (As := [.int (x2), .int ((1 : Int32)), .int ((20 : Int32))]) (rest := []) (st1 := [.int (q_3)]) X Z hl.1 (c6_within l E hJ _ _ _ _ _ h_q_3) wd_9_1 wd_9_2 wd_1_5 wd_9_3 hd6_within ⟨Nat.le_trans (by decide) hR.1, Nat.le_trans (by decide) hR.2⟩ ⟨Nat.zero_le _, Nat.zero_le _⟩ (Nat.le_of_ble_eq_true rfl) rfl rfl dX6_addTrain_14 (fun H locs Z => ?_)
    refine lv_if_ne (tgt := 23) hx hb dX6_addTrain_17 (by decide) (fun h_4 => ?_) (fun h_4 => ?_)
    · replace hT := mx_f hT h_4
      refine lv_aload_n hx hb dX6_addTrain_23 rfl (lv_at hl 0 rfl) ?_
      refine mx_get (v := .ref (mad E (247))) (ci := 6) (C := RX6) (T := TX6) (N := 11) X Z hc.i (hc.c _) rfl inlX6 0 (by decide) wd_7_23 rfl dX6_addTrain_24 ?_
      refine lv_bipush (v := (73 : Int32)) hx hb dX6_addTrain_27 (by decide) ?_
      refine mx_iald X Z hc.z (mx_lit (by decide)) dX6_addTrain_29 ?_
      refine mx_tops (s2 := [.int (G 247 73)]) rfl ?_
      refine lv_iconst (v := (4 : Int32)) hx hb dX6_addTrain_30 (by decide) ?_
      refine lv_icmp_ne (tgt := 37) hx hb dX6_addTrain_31 (by decide) (fun h_5 => ?_) (fun h_5 => ?_)
      · replace hT := mx_f hT h_5
        refine lv_aload_n hx hb dX6_addTrain_37 rfl (lv_at hl 0 rfl) ?_
        obtain ⟨q_6, h_q_6, hT⟩ := mx_bind hT
        refine mx_callV (As := []) (rest := []) (st1 := []) (C := RX6) (T := TX6) (N := 11) (ci := 6) X Z hl.1 (c6_record l E hJ hc _ _ h_q_6) wd_12_22 wd_12_23 wd_13_0 wd_1_5 wd_13_1 hd6_record ⟨Nat.le_trans (by decide) hR.1, Nat.le_trans (by decide) hR.2⟩ ⟨Nat.zero_le _, Nat.zero_le _⟩ hc.i (hc.c _) rfl (Nat.le_of_ble_eq_true rfl) rfl rfl dX6_addTrain_38 (fun H locs Z => ?_)
        refine lv_aload_n hx hb dX6_addTrain_41 rfl (lv_at hl 0 rfl) ?_
        refine mx_get (v := .ref (mad E (247))) (ci := 6) (C := RX6) (T := TX6) (N := 11) X Z hc.i (hc.c _) rfl inlX6 0 (by decide) wd_7_23 rfl dX6_addTrain_42 ?_
        refine lv_bipush (v := (73 : Int32)) hx hb dX6_addTrain_45 (by decide) ?_
        refine mx_iald X Z hc.z (mx_lit (by decide)) dX6_addTrain_47 ?_
        refine mx_tops (s2 := [.int (q_6 247 73)]) rfl ?_
        obtain ⟨v_7, e_v_7, hT⟩ := mx_nm hT
        refine mx_tops (congrArg (fun z => (.int (z) :: [] : List Value)) e_v_7) ?_
        refine lv_istore_n (lv' := [(3, .int (v_7)), (0, .ref (mad E (246))), (1, .int (x1)), (2, .int (x2))]) hx hb dX6_addTrain_48 rfl hl (by decide) rfl (fun ls hl => ?_)
        refine lv_iconst (v := (0 : Int32)) hx hb dX6_addTrain_49 (by decide) ?_
        refine lv_istore (lv' := [(4, .int ((0 : Int32))), (3, .int (v_7)), (0, .ref (mad E (246))), (1, .int (x1)), (2, .int (x2))]) hx hb dX6_addTrain_50 hl (by decide) rfl (fun ls hl => ?_)
        obtain ⟨q_11, h_q_11, hT⟩ := mx_bind hT
        refine k6_addTrain_52 X hR hJ hc _ _ _ _ _ _ _ _ _ _ h_q_11 Z (lv_sub (l' := [(0, .ref (mad E (246))), (1, .int (x1)), (2, .int (x2)), (3, .int (v_7)), (4, .int ((0 : Int32)))]) hl [2, 3, 4, 1, 0] rfl) (fun H locs ls Z hl => ?_)
        · refine lv_aload_n hx hb dX6_addTrain_73 rfl (lv_at hl 0 rfl) ?_
          refine lv_iload_n hx hb dX6_addTrain_74 rfl (lv_at hl 3 rfl) ?_
          refine lv_iconst (v := (0 : Int32)) hx hb dX6_addTrain_75 (by decide) ?_
          refine lv_iload_n hx hb dX6_addTrain_76 rfl (lv_at hl 1 rfl) ?_
          obtain ⟨q_12, h_q_12, hT⟩ := mx_bind hT
          refine mx_callV (As := [.int (v_7), .int ((0 : Int32)), .int (x1)]) (rest := []) (st1 := []) (C := RX6) (T := TX6) (N := 11) (ci := 6) X Z hl.1 (c6_put l E hJ hc _ _ _ _ _ h_q_12) wd_15_18 wd_15_19 wd_15_20 wd_1_5 wd_15_21 hd6_put ⟨Nat.le_trans (by decide) hR.1, Nat.le_trans (by decide) hR.2⟩ ⟨Nat.zero_le _, Nat.zero_le _⟩ hc.i (hc.c _) rfl (Nat.le_of_ble_eq_true rfl) rfl rfl dX6_addTrain_77 (fun H locs Z => ?_)
          refine lv_aload_n hx hb dX6_addTrain_80 rfl (lv_at hl 0 rfl) ?_
          refine lv_iload_n hx hb dX6_addTrain_81 rfl (lv_at hl 3 rfl) ?_
          refine lv_iconst (v := (1 : Int32)) hx hb dX6_addTrain_82 (by decide) ?_
          refine lv_iload_n hx hb dX6_addTrain_83 rfl (lv_at hl 2 rfl) ?_
          obtain ⟨q_13, h_q_13, hT⟩ := mx_bind hT
          refine mx_callV (As := [.int (v_7), .int ((1 : Int32)), .int (x2)]) (rest := []) (st1 := []) (C := RX6) (T := TX6) (N := 11) (ci := 6) X Z hl.1 (c6_put l E hJ hc _ _ _ _ _ h_q_13) wd_15_18 wd_15_19 wd_15_20 wd_1_5 wd_15_21 hd6_put ⟨Nat.le_trans (by decide) hR.1, Nat.le_trans (by decide) hR.2⟩ ⟨Nat.zero_le _, Nat.zero_le _⟩ hc.i (hc.c _) rfl (Nat.le_of_ble_eq_true rfl) rfl rfl dX6_addTrain_84 (fun H locs Z => ?_)
          refine lv_aload_n hx hb dX6_addTrain_87 rfl (lv_at hl 0 rfl) ?_
          refine mx_get (v := .ref (mad E (247))) (ci := 6) (C := RX6) (T := TX6) (N := 11) X Z hc.i (hc.c _) rfl inlX6 0 (by decide) wd_7_23 rfl dX6_addTrain_88 ?_
          refine lv_bipush (v := (73 : Int32)) hx hb dX6_addTrain_91 (by decide) ?_
          refine lv_dup2_11 hx hb dX6_addTrain_93 rfl rfl ?_
          refine mx_iald X Z hc.z (mx_lit (by decide)) dX6_addTrain_94 ?_
          refine mx_tops (s2 := [.int (q_13 247 73), .int ((73 : Int32)), .ref (mad E (247))]) rfl ?_
          refine lv_iconst (v := (1 : Int32)) hx hb dX6_addTrain_95 (by decide) ?_
          refine lv_iadd hx hb dX6_addTrain_96 ?_
          obtain ⟨G_14, e_G_14, hT⟩ := mx_nm hT
          refine mx_iast X Z hc.z (mx_lit (by decide)) dX6_addTrain_97 (fun H locs Z => ?_)
          replace Z : mZ E s.heap H locs (up2 q_13 247 73 ((q_13 247 73) + ((1 : Int32)))) := Z
          rw [e_G_14] at Z
          refine lv_iload_n hx hb dX6_addTrain_98 rfl (lv_at hl 3 rfl) ?_
          cases hT
          exact W.iret hx hb hr (fun t ht hW => mx_end Z t ht _) Z.2.2.2 dX6_addTrain_99
      · replace hT := mx_t hT h_5
        refine lv_bipush (v := (-4 : Int32)) hx hb dX6_addTrain_34 (by decide) ?_
        cases hT
        exact W.iret hx hb hr (fun t ht hW => mx_end Z t ht _) Z.2.2.2 dX6_addTrain_36
    · replace hT := mx_t hT h_4
      refine lv_bipush (v := (-2 : Int32)) hx hb dX6_addTrain_20 (by decide) ?_
      cases hT
      exact W.iret hx hb hr (fun t ht hW => mx_end Z t ht _) Z.2.2.2 dX6_addTrain_22
/-! PeatRailwayModel.dropTrain -/
def x6_dropTrain_L52 (y2 : Int32) : Nat → Int32 → mM → Option (mM)
  | 0, _, _ => none
  | n + 1, w3, G =>
    if (((36 : Int32)) + (((9 : Int32)) * (G 247 73))) ≤ w3 then
      some (G)
    else
      mCk (mIn (w3 + ((9 : Int32))) 82) <|
      mCk (mIn w3 82) <|
      mNm (up2 G 247 w3.toNatClampNeg (G 247 ((w3 + ((9 : Int32))).toNatClampNeg))) fun G_11 =>
      mNm (w3 + (1 : Int32)) fun v_12 =>
      x6_dropTrain_L52 y2 n v_12 G_11
def x6_dropTrain (x1 : Int32) (G : mM) : Option (Int32 × mM) :=
  (x6_isTrain x1 G).bind fun q_1 =>
  if q_1 = 0 then
    some ((-2 : Int32), G)
  else
    (x6_record G).bind fun q_3 =>
    (x6_of x1 ((2 : Int32)) q_3).bind fun q_4 =>
    mNm (up2 q_3 247 81 ((q_3 247 81) + q_4)) fun G_5 =>
    mNm (up2 G_5 247 73 ((G_5 247 73) - ((1 : Int32)))) fun G_6 =>
    mNm (((36 : Int32)) + (((9 : Int32)) * x1)) fun v_7 =>
    (x6_dropTrain_L52 q_4 mFu v_7 G_6).bind fun q_13 =>
    some (q_4, q_13)
theorem hd6_dropTrain : yX6_dropTrain.cls = RX6 ∧ yX6_dropTrain.cls ≠ "java/lang/invoke/MethodHandle" ∧ yX6_dropTrain.cls ≠ "java/lang/invoke/VarHandle" ∧ (parseMethodDescriptor yX6_dropTrain.desc).map (fun d => d.parameters.length) = some 1 := by decide +kernel
set_option maxHeartbeats 4000000 in
set_option maxRecDepth 100000 in
theorem k6_dropTrain_52 {p : Program} {l : Launch} {e : Env} {R : Room} {s : State} {m : MethodId} {args : Array Value} {below : List Frame} {meth : Method} {cd : Code} {Q : State → Prop} {E : mE} (X : mX p s m args cd cX6_dropTrain 4 RX6 E) (hR : 2 ≤ R.frames ∧ 46 ≤ R.locals) (hJ : mJ E) (hy0 : mMo E 246) (y2 : Int32) : ∀ (n : Nat) (w3 : Int32) (G : mM) (H : Heap) (locs : List Loc) (ls : Array Slot) (r : mM), x6_dropTrain_L52 y2 n w3 G = some r → mZ E s.heap H locs G → lv_has ls 4 [(0, .ref (mad E (246))), (2, .int (y2)), (3, .int (w3))] → (∀ (H : Heap) (locs : List Loc) (ls : Array Slot), mZ E s.heap H locs r → lv_has ls 4 [(0, .ref (mad E (246))), (2, .int (y2))] → W p l e R s m args below meth cd H locs 0 0 Q (F0 m 90 ls [])) → W p l e R s m args below meth cd H locs 0 0 Q (F0 m 52 ls []) := by
  have hx := X.1
  have hb := X.2.1
  have hown := X.2.2.2.1
  have hts := X.2.2.2.2.1
  intro n
  induction n with
  | zero =>
    intro w3 G H locs ls r hT
    rw [x6_dropTrain_L52] at hT
    cases hT
  | succ n ih =>
    intro w3 G H locs ls r hT Z hl k0
    rw [x6_dropTrain_L52] at hT
    refine lv_iload_n hx hb dX6_dropTrain_52 rfl (lv_at hl 2 rfl) ?_
    refine lv_bipush (v := (36 : Int32)) hx hb dX6_dropTrain_53 (by decide) ?_
    refine lv_bipush (v := (9 : Int32)) hx hb dX6_dropTrain_55 (by decide) ?_
    refine lv_aload_n hx hb dX6_dropTrain_57 rfl (lv_at hl 0 rfl) ?_
    refine mx_get (v := .ref (mad E (247))) (ci := 6) (C := RX6) (T := TX6) (N := 11) X Z hy0.i (hy0.c _) rfl inlX6 0 (by decide) wd_7_23 rfl dX6_dropTrain_58 ?_
    refine lv_bipush (v := (73 : Int32)) hx hb dX6_dropTrain_61 (by decide) ?_
    refine mx_iald X Z hy0.z (mx_lit (by decide)) dX6_dropTrain_63 ?_
    refine mx_tops (s2 := [.int (G 247 73), .int ((9 : Int32)), .int ((36 : Int32)), .int (w3)]) rfl ?_
    refine lv_imul hx hb dX6_dropTrain_64 ?_
    refine lv_iadd hx hb dX6_dropTrain_65 ?_
    refine lv_icmp_ge (tgt := 90) hx hb dX6_dropTrain_66 (by decide) (fun h_8 => ?_) (fun h_8 => ?_)
    · replace hT := mx_t hT h_8
      cases hT
      exact k0 _ _ _ Z (lv_sub hl [0, 1] rfl)
    · replace hT := mx_f hT h_8
      refine lv_aload_n hx hb dX6_dropTrain_69 rfl (lv_at hl 0 rfl) ?_
      refine mx_get (v := .ref (mad E (247))) (ci := 6) (C := RX6) (T := TX6) (N := 11) X Z hy0.i (hy0.c _) rfl inlX6 0 (by decide) wd_7_23 rfl dX6_dropTrain_70 ?_
      refine lv_iload_n hx hb dX6_dropTrain_73 rfl (lv_at hl 2 rfl) ?_
      refine lv_aload_n hx hb dX6_dropTrain_74 rfl (lv_at hl 0 rfl) ?_
      refine mx_get (v := .ref (mad E (247))) (ci := 6) (C := RX6) (T := TX6) (N := 11) X Z hy0.i (hy0.c _) rfl inlX6 0 (by decide) wd_7_23 rfl dX6_dropTrain_75 ?_
      refine lv_iload_n hx hb dX6_dropTrain_78 rfl (lv_at hl 2 rfl) ?_
      refine lv_bipush (v := (9 : Int32)) hx hb dX6_dropTrain_79 (by decide) ?_
      refine lv_iadd hx hb dX6_dropTrain_81 ?_
      obtain ⟨h_9, hT⟩ := mx_chk hT
      refine mx_iald X Z hy0.z h_9 dX6_dropTrain_82 ?_
      obtain ⟨h_10, hT⟩ := mx_chk hT
      obtain ⟨G_11, e_G_11, hT⟩ := mx_nm hT
      refine mx_iast X Z hy0.z h_10 dX6_dropTrain_83 (fun H locs Z => ?_)
      rw [e_G_11] at Z
      obtain ⟨v_12, e_v_12, hT⟩ := mx_nm hT
      refine lv_iinc (v := v_12) (lv' := [(3, .int (v_12)), (0, .ref (mad E (246))), (2, .int (y2))]) hx hb dX6_dropTrain_84 hl (k := 2) rfl (by rw [← e_v_12]; rfl) (by decide) rfl (fun ls hl => ?_)
      refine lv_goto (tgt := 52) hx hb dX6_dropTrain_87 (by decide) ?_
      exact ih _ _ _ _ _ _ hT Z (lv_sub hl [1, 2, 0] rfl) k0
set_option maxHeartbeats 4000000 in
set_option maxRecDepth 100000 in
theorem c6_dropTrain (l : Launch) (E : mE) (hJ : mJ E) (hc : mMo E 246) (x1 : Int32) (G : mM) (q : (Int32 × mM)) (hT : x6_dropTrain x1 G = some q) : mMet l E yX6_dropTrain cX6_dropTrain 4 (some .int) 2 46 [.ref (mad E (246)), .int (x1)] G (some (.int q.1)) q.2 := by
  refine Met.ofW (cc := cX6_dropTrain) (maxL := 4) (ret := (some .int)) (by decide) rfl ?_
  intro p e s m args below meth cd s₁ B hml hv
  obtain ⟨rfl, hP, hK, hS⟩ := hv
  have X := mx_entry (own := RX6) B hml hK hJ hS rfl
  have hx := X.1
  have hb := X.2.1
  have hown := X.2.2.2.1
  have hts := X.2.2.2.2.1
  have hr := B.returns
  have hlocks := B.notSynchronized
  have hR : 2 ≤ (headSpec (mWs yX6_dropTrain cX6_dropTrain 4 (some .int)) ({ frames := 2, cells := 0, slots := 0, locals := 46 })).room.frames ∧ 46 ≤ (headSpec (mWs yX6_dropTrain cX6_dropTrain 4 (some .int)) ({ frames := 2, cells := 0, slots := 0, locals := 46 })).room.locals := ⟨Nat.le_refl _, Nat.le_refl _⟩
  have Z : mZ E s.heap s.heap [] G := ⟨hP, va_S.rf⟩
  have hl := lv_entry ([.ref (mad E (246)), .int (x1)]) (n := 4) (Nat.le_of_ble_eq_true rfl)
  rw [lg_entry_eq]
  generalize (lg_sl ([.ref (mad E (246)), .int (x1)]) ++ List.replicate (4 - (lg_sl ([.ref (mad E (246)), .int (x1)])).length) Slot.unset).toArray = ls at hl ⊢
  have hl : lv_has ls 4 [(0, .ref (mad E (246))), (1, .int (x1))] := hl
  unfold x6_dropTrain at hT
  refine lv_aload_n hx hb dX6_dropTrain_0 rfl (lv_at hl 0 rfl) ?_
  refine lv_iload_n hx hb dX6_dropTrain_1 rfl (lv_at hl 1 rfl) ?_
  obtain ⟨q_1, h_q_1, hT⟩ := mx_bind hT
  refine mx_callV (As := [.int (x1)]) (rest := []) (st1 := [.int (q_1)]) (C := RX6) (T := TX6) (N := 11) (ci := 6) X Z hl.1 (c6_isTrain l E hJ hc _ _ _ h_q_1) wd_16_12 wd_16_13 wd_16_14 wd_1_5 wd_16_15 hd6_isTrain ⟨Nat.le_trans (by decide) hR.1, Nat.le_trans (by decide) hR.2⟩ ⟨Nat.zero_le _, Nat.zero_le _⟩ hc.i (hc.c _) rfl (Nat.le_of_ble_eq_true rfl) rfl rfl dX6_dropTrain_2 (fun H locs Z => ?_)
  refine lv_if_ne (tgt := 11) hx hb dX6_dropTrain_5 (by decide) (fun h_2 => ?_) (fun h_2 => ?_)
  · replace hT := mx_f hT h_2
    refine lv_aload_n hx hb dX6_dropTrain_11 rfl (lv_at hl 0 rfl) ?_
    obtain ⟨q_3, h_q_3, hT⟩ := mx_bind hT
    refine mx_callV (As := []) (rest := []) (st1 := []) (C := RX6) (T := TX6) (N := 11) (ci := 6) X Z hl.1 (c6_record l E hJ hc _ _ h_q_3) wd_12_22 wd_12_23 wd_13_0 wd_1_5 wd_13_1 hd6_record ⟨Nat.le_trans (by decide) hR.1, Nat.le_trans (by decide) hR.2⟩ ⟨Nat.zero_le _, Nat.zero_le _⟩ hc.i (hc.c _) rfl (Nat.le_of_ble_eq_true rfl) rfl rfl dX6_dropTrain_12 (fun H locs Z => ?_)
    refine lv_aload_n hx hb dX6_dropTrain_15 rfl (lv_at hl 0 rfl) ?_
    refine lv_iload_n hx hb dX6_dropTrain_16 rfl (lv_at hl 1 rfl) ?_
    refine lv_iconst (v := (2 : Int32)) hx hb dX6_dropTrain_17 (by decide) ?_
    obtain ⟨q_4, h_q_4, hT⟩ := mx_bind hT
    refine mx_callV (As := [.int (x1), .int ((2 : Int32))]) (rest := []) (st1 := [.int (q_4)]) (C := RX6) (T := TX6) (N := 11) (ci := 6) X Z hl.1 (c6_of l E hJ hc _ _ _ _ h_q_4) wd_13_11 wd_13_12 wd_13_13 wd_1_5 wd_13_14 hd6_of ⟨Nat.le_trans (by decide) hR.1, Nat.le_trans (by decide) hR.2⟩ ⟨Nat.zero_le _, Nat.zero_le _⟩ hc.i (hc.c _) rfl (Nat.le_of_ble_eq_true rfl) rfl rfl dX6_dropTrain_18 (fun H locs Z => ?_)
    refine lv_istore_n (lv' := [(2, .int (q_4)), (0, .ref (mad E (246))), (1, .int (x1))]) hx hb dX6_dropTrain_21 rfl hl (by decide) rfl (fun ls hl => ?_)
    refine lv_aload_n hx hb dX6_dropTrain_22 rfl (lv_at hl 1 rfl) ?_
    refine mx_get (v := .ref (mad E (247))) (ci := 6) (C := RX6) (T := TX6) (N := 11) X Z hc.i (hc.c _) rfl inlX6 0 (by decide) wd_7_23 rfl dX6_dropTrain_23 ?_
    refine lv_bipush (v := (81 : Int32)) hx hb dX6_dropTrain_26 (by decide) ?_
    refine lv_dup2_11 hx hb dX6_dropTrain_28 rfl rfl ?_
    refine mx_iald X Z hc.z (mx_lit (by decide)) dX6_dropTrain_29 ?_
    refine mx_tops (s2 := [.int (q_3 247 81), .int ((81 : Int32)), .ref (mad E (247))]) rfl ?_
    refine lv_iload_n hx hb dX6_dropTrain_30 rfl (lv_at hl 0 rfl) ?_
    refine lv_iadd hx hb dX6_dropTrain_31 ?_
    obtain ⟨G_5, e_G_5, hT⟩ := mx_nm hT
    refine mx_iast X Z hc.z (mx_lit (by decide)) dX6_dropTrain_32 (fun H locs Z => ?_)
    replace Z : mZ E s.heap H locs (up2 q_3 247 81 ((q_3 247 81) + q_4)) := Z
    rw [e_G_5] at Z
    refine lv_aload_n hx hb dX6_dropTrain_33 rfl (lv_at hl 1 rfl) ?_
    refine mx_get (v := .ref (mad E (247))) (ci := 6) (C := RX6) (T := TX6) (N := 11) X Z hc.i (hc.c _) rfl inlX6 0 (by decide) wd_7_23 rfl dX6_dropTrain_34 ?_
    refine lv_bipush (v := (73 : Int32)) hx hb dX6_dropTrain_37 (by decide) ?_
    refine lv_dup2_11 hx hb dX6_dropTrain_39 rfl rfl ?_
    refine mx_iald X Z hc.z (mx_lit (by decide)) dX6_dropTrain_40 ?_
    refine mx_tops (s2 := [.int (G_5 247 73), .int ((73 : Int32)), .ref (mad E (247))]) rfl ?_
    refine lv_iconst (v := (1 : Int32)) hx hb dX6_dropTrain_41 (by decide) ?_
    refine lv_isub hx hb dX6_dropTrain_42 ?_
    obtain ⟨G_6, e_G_6, hT⟩ := mx_nm hT
    refine mx_iast X Z hc.z (mx_lit (by decide)) dX6_dropTrain_43 (fun H locs Z => ?_)
    replace Z : mZ E s.heap H locs (up2 G_5 247 73 ((G_5 247 73) - ((1 : Int32)))) := Z
    rw [e_G_6] at Z
    refine lv_bipush (v := (36 : Int32)) hx hb dX6_dropTrain_44 (by decide) ?_
    refine lv_bipush (v := (9 : Int32)) hx hb dX6_dropTrain_46 (by decide) ?_
    refine lv_iload_n hx hb dX6_dropTrain_48 rfl (lv_at hl 2 rfl) ?_
    refine lv_imul hx hb dX6_dropTrain_49 ?_
    refine lv_iadd hx hb dX6_dropTrain_50 ?_
    obtain ⟨v_7, e_v_7, hT⟩ := mx_nm hT
    refine mx_tops (congrArg (fun z => (.int (z) :: [] : List Value)) e_v_7) ?_
    refine lv_istore_n (lv' := [(3, .int (v_7)), (2, .int (q_4)), (0, .ref (mad E (246))), (1, .int (x1))]) hx hb dX6_dropTrain_51 rfl hl (by decide) rfl (fun ls hl => ?_)
    obtain ⟨q_13, h_q_13, hT⟩ := mx_bind hT
    refine k6_dropTrain_52 X hR hJ hc _ _ _ _ _ _ _ _ h_q_13 Z (lv_sub (l' := [(0, .ref (mad E (246))), (2, .int (q_4)), (3, .int (v_7))]) hl [2, 1, 0] rfl) (fun H locs ls Z hl => ?_)
    · refine lv_iload_n hx hb dX6_dropTrain_90 rfl (lv_at hl 1 rfl) ?_
      cases hT
      exact W.iret hx hb hr (fun t ht hW => mx_end Z t ht _) Z.2.2.2 dX6_dropTrain_91
  · replace hT := mx_t hT h_2
    refine lv_bipush (v := (-2 : Int32)) hx hb dX6_dropTrain_8 (by decide) ?_
    cases hT
    exact W.iret hx hb hr (fun t ht hW => mx_end Z t ht _) Z.2.2.2 dX6_dropTrain_10
