/-! the long field, and the two methods of Double that the reference reaches -/
def mW1 (v : Int64) : Int32 := Int32.ofBitVec (v.toBitVec.extractLsb' 32 32)
def mW0 (v : Int64) : Int32 := Int32.ofBitVec (v.toBitVec.extractLsb' 0 32)
theorem mLong_w (v : Int64) : mLong (mW1 v) (mW0 v) = v := by
  apply Int64.toBitVec_inj.mp
  show (v.toBitVec.extractLsb' 32 32 ++ v.toBitVec.extractLsb' 0 32 : BitVec (32 + 32)) = v.toBitVec
  apply BitVec.eq_of_getLsbD_eq
  intro i hi
  rw [BitVec.getLsbD_append]
  by_cases h : i < 32
  · simp [h, BitVec.getLsbD_extractLsb']
  · simp only [h, decide_false, cond_false, BitVec.getLsbD_extractLsb']
    have h2 : i - 32 < 32 := by omega
    have h3 : 32 + (i - 32) = i := by omega
    simp [h2, h3, h]
def upL (G : mM) (c : Nat) (v : Int64) : mM := up2 (up2 G c 10 (mW1 v)) c 11 (mW0 v)
theorem upL_other {G : mM} {c : Nat} {v : Int64} {c' : Nat} (h : c' ≠ c) : upL G c v c' = G c' := by
  unfold upL
  rw [up2_other h, up2_other h]
theorem upL_long (G : mM) (c : Nat) (v : Int64) : mLong (upL G c v c 10) (upL G c v c 11) = v := by
  unfold upL
  rw [up2_same, up2_ne (Or.inr (by decide)), up2_same, mLong_w]
theorem upL_ne {G : mM} {c : Nat} {v : Int64} {c' k : Nat} (h : k < 10) : upL G c v c' k = G c' k := by
  unfold upL
  rw [up2_ne (Or.inr (by omega)), up2_ne (Or.inr (by omega))]
theorem sp_Mo_10 (ad : Nat → Nat) (G : mM) (c : Nat) (v : Int64) : f_Mo ad (upL G c v) c = (f_Mo ad G c).set 10 (.long v) := by
  unfold f_Mo
  rw [upL_long, upL_ne (by decide), upL_ne (by decide), upL_ne (by decide), upL_ne (by decide), upL_ne (by decide)]
  rfl
set_option maxHeartbeats 4000000 in
set_option maxRecDepth 100000 in
theorem cJ_isNaN (l : Launch) (E : mE) (hJ : mJ E) (x : UInt64) (G : mM) (hT : Op.cmpValue (FP.dcmp x x) .l = 0) : mMet l E yJxe99ae_isNaN_b9ae7 cJxe99ae_isNaN_b9ae7 2 (some .boolean) 0 0 [.double x] G (some (.int 0)) G := by
  refine Met.ofW (cc := cJxe99ae_isNaN_b9ae7) (maxL := 2) (ret := some .boolean) (by decide) rfl ?_
  intro p e s m args below meth cd s₁ B hml hv
  obtain ⟨rfl, hP, hK, hS⟩ := hv
  have X := mx_entry (own := RJxe99ae) B hml hK hJ hS rfl
  have hx := X.1
  have hb := X.2.1
  have hr := B.returns
  have hlocks := B.notSynchronized
  have Z : mZ E s.heap s.heap [] G := ⟨hP, va_S.rf⟩
  have hl := lv_entry ([.double x]) (n := 2) (Nat.le_of_ble_eq_true rfl)
  rw [lg_entry_eq]
  generalize (lg_sl ([.double x]) ++ List.replicate (2 - (lg_sl ([.double x])).length) Slot.unset).toArray = ls at hl ⊢
  have hl : lv_has ls 2 [(0, .double x)] := hl
  refine lv_dload_n hx hb dJxe99ae_isNaN_b9ae7_0 rfl (lv_at hl 0 rfl) ?_
  refine lv_dload_n hx hb dJxe99ae_isNaN_b9ae7_1 rfl (lv_at hl 0 rfl) ?_
  refine lv_dcmp hx hb dJxe99ae_isNaN_b9ae7_2 ?_
  refine lv_if_eq (tgt := 10) hx hb dJxe99ae_isNaN_b9ae7_3 (by decide) (fun h => ?_) (fun h => absurd hT h)
  refine lv_iconst (v := (0 : Int32)) hx hb dJxe99ae_isNaN_b9ae7_10 (by decide) ?_
  exact W.zret hx hb hr rfl (fun t ht hW => mx_end Z t ht _) Z.2.2.2 dJxe99ae_isNaN_b9ae7_11
theorem hdJ_isNaN : yJxe99ae_isNaN_b9ae7.cls ≠ "java/lang/invoke/MethodHandle" ∧ yJxe99ae_isNaN_b9ae7.cls ≠ "java/lang/invoke/VarHandle" ∧ (parseMethodDescriptor yJxe99ae_isNaN_b9ae7.desc).map (fun d => d.parameters.length) = some 1 := by decide +kernel
theorem hdJ_bits : yJxe99ae_doubleToLongBits_ccdee.cls ≠ "java/lang/invoke/MethodHandle" ∧ yJxe99ae_doubleToLongBits_ccdee.cls ≠ "java/lang/invoke/VarHandle" ∧ (parseMethodDescriptor yJxe99ae_doubleToLongBits_ccdee.desc).map (fun d => d.parameters.length) = some 1 := by decide +kernel
set_option maxHeartbeats 4000000 in
set_option maxRecDepth 100000 in
theorem cJ_bits (l : Launch) (E : mE) (hJ : mJ E) (x : UInt64) (G : mM) (hT : Op.cmpValue (FP.dcmp x x) .l = 0) : mMet l E yJxe99ae_doubleToLongBits_ccdee cJxe99ae_doubleToLongBits_ccdee 2 (some .long) 1 21 [.double x] G (some (.long x.toInt64)) G := by
  refine Met.ofW (cc := cJxe99ae_doubleToLongBits_ccdee) (maxL := 2) (ret := some .long) (by decide) rfl ?_
  intro p e s m args below meth cd s₁ B hml hv
  obtain ⟨rfl, hP, hK, hS⟩ := hv
  have X := mx_entry (own := RJxe99ae) B hml hK hJ hS rfl
  have hx := X.1
  have hb := X.2.1
  have hown := X.2.2.2.1
  have hts := X.2.2.2.2.1
  have hr := B.returns
  have hlocks := B.notSynchronized
  have hR : 1 ≤ (headSpec (mWs yJxe99ae_doubleToLongBits_ccdee cJxe99ae_doubleToLongBits_ccdee 2 (some .long)) ({ frames := 1, cells := 0, slots := 0, locals := 21 })).room.frames ∧ 21 ≤ (headSpec (mWs yJxe99ae_doubleToLongBits_ccdee cJxe99ae_doubleToLongBits_ccdee 2 (some .long)) ({ frames := 1, cells := 0, slots := 0, locals := 21 })).room.locals := ⟨Nat.le_refl _, Nat.le_refl _⟩
  have Z : mZ E s.heap s.heap [] G := ⟨hP, va_S.rf⟩
  have hl := lv_entry ([.double x]) (n := 2) (Nat.le_of_ble_eq_true rfl)
  rw [lg_entry_eq]
  generalize (lg_sl ([.double x]) ++ List.replicate (2 - (lg_sl ([.double x])).length) Slot.unset).toArray = ls at hl ⊢
  have hl : lv_has ls 2 [(0, .double x)] := hl
  refine lv_dload_n hx hb dJxe99ae_doubleToLongBits_ccdee_0 rfl (lv_at hl 0 rfl) ?_
  refine mx_callS (As := [.double x]) (rest := []) (st1 := [.int 0]) X Z hl.1 (cJ_isNaN l E hJ x G hT) wd_35_2 wd_35_3 wd_35_0 wd_35_4 hdJ_isNaN ⟨hR.1, hR.2⟩ ⟨Nat.zero_le _, Nat.zero_le _⟩ (by decide) rfl rfl dJxe99ae_doubleToLongBits_ccdee_1 (fun H locs Z => ?_)
  refine lv_if_ne (tgt := 12) hx hb dJxe99ae_doubleToLongBits_ccdee_4 (by decide) (fun h => absurd rfl h) (fun h => ?_)
  refine lv_dload_n hx hb dJxe99ae_doubleToLongBits_ccdee_7 rfl (lv_at hl 0 rfl) ?_
  refine vn_d2l hx hb (X.2.2.1.trans hl.1.symm) hown (hts _ wd_34_21) (hts _ wd_34_22) (hts _ wd_34_23) (hts _ wd_35_0) hR.1 (Nat.le_trans (Nat.le_of_ble_eq_true rfl) hR.2) dJxe99ae_doubleToLongBits_ccdee_8 ?_
  exact W.lret hx hb hr (fun t ht hW => mx_end Z t ht _) Z.2.2.2 dJxe99ae_doubleToLongBits_ccdee_11
