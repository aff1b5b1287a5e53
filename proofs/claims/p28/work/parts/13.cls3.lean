/-! PeatRailway.count -/
def x5_count (x1 : Int32) (G : mM) : Option Int32 :=
  if x1 = 0 then
    some (G 0 3)
  else
    if x1 = 1 then
      some (G 0 4)
    else
      if x1 = 2 then
        some (G 0 9)
      else
        if x1 = 3 then
          (x3_greatestSinking 0 G).bind fun q_5 =>
          some (q_5)
        else
          if x1 = 4 then
            (x3_waitsOfAll 0 G).bind fun q_7 =>
            some (q_7)
          else
            if x1 = 5 then
              (x0_size G).bind fun q_9 =>
              some (q_9)
            else
              if x1 = 6 then
                some (G 240 5)
              else
                if x1 = 7 then
                  (x3_sunkSegments 0 G).bind fun q_12 =>
                  some (q_12)
                else
                  some ((-2 : Int32))
theorem hd5_count : yX5_count.cls = RX5 ∧ yX5_count.cls ≠ "java/lang/invoke/MethodHandle" ∧ yX5_count.cls ≠ "java/lang/invoke/VarHandle" ∧ (parseMethodDescriptor yX5_count.desc).map (fun d => d.parameters.length) = some 1 := by decide +kernel
set_option maxHeartbeats 4000000 in
set_option maxRecDepth 100000 in
theorem c5_count (l : Launch) (E : mE) (hJ : mJ E) (hc : mAl E 240) (x1 : Int32) (G : mM) (q : Int32) (hT : x5_count x1 G = some q) : mMet l E yX5_count cX5_count 2 (some .int) 2 44 [.ref (mad E (240)), .int (x1)] G (some (.int q)) G := by
  refine Met.ofW (cc := cX5_count) (maxL := 2) (ret := (some .int)) (by decide) rfl ?_
  intro p e s m args below meth cd s₁ B hml hv
  obtain ⟨rfl, hP, hK, hS⟩ := hv
  have X := mx_entry (own := RX5) B hml hK hJ hS rfl
  have hx := X.1
  have hb := X.2.1
  have hown := X.2.2.2.1
  have hts := X.2.2.2.2.1
  have hr := B.returns
  have hlocks := B.notSynchronized
  have hR : 2 ≤ (headSpec (mWs yX5_count cX5_count 2 (some .int)) ({ frames := 2, cells := 0, slots := 0, locals := 44 })).room.frames ∧ 44 ≤ (headSpec (mWs yX5_count cX5_count 2 (some .int)) ({ frames := 2, cells := 0, slots := 0, locals := 44 })).room.locals := ⟨Nat.le_refl _, Nat.le_refl _⟩
  have Z : mZ E s.heap s.heap [] G := ⟨hP, va_S.rf⟩
  have hl := lv_entry ([.ref (mad E (240)), .int (x1)]) (n := 2) (Nat.le_of_ble_eq_true rfl)
  rw [lg_entry_eq]
  generalize (lg_sl ([.ref (mad E (240)), .int (x1)]) ++ List.replicate (2 - (lg_sl ([.ref (mad E (240)), .int (x1)])).length) Slot.unset).toArray = ls at hl ⊢
  have hl : lv_has ls 2 [(0, .ref (mad E (240))), (1, .int (x1))] := hl
  unfold x5_count at hT
  refine lv_iload_n hx hb dX5_count_0 rfl (lv_at hl 1 rfl) ?_
  by_cases h_1 : x1 = 0
  · replace hT := mx_t hT h_1
    refine lv_tableIn (tgt := 48) hx hb dX5_count_1 (by rw [h_1]; decide) (by rw [h_1]; decide) (by rw [h_1]; rfl) (by decide) ?_
    refine lv_aload_n hx hb dX5_count_48 rfl (lv_at hl 0 rfl) ?_
    refine mx_get (v := .ref (mad E (0))) (ci := 5) (C := RX5) (T := TX5) (N := 6) X Z hc.i (hc.c _) rfl inlX5 1 (by decide) wd_1_18 rfl dX5_count_49 ?_
    refine mx_get (v := .int (G 0 3)) (ci := 3) (C := RX3) (T := TX3) (N := 11) X Z hc.now.i (hc.now.c _) rfl inlX3 3 (by decide) wd_15_14 rfl dX5_count_52 ?_
    cases hT
    exact W.iret hx hb hr (fun t ht hW => mx_end Z t ht _) Z.2.2.2 dX5_count_55
  · replace hT := mx_f hT h_1
    by_cases h_2 : x1 = 1
    · replace hT := mx_t hT h_2
      refine lv_tableIn (tgt := 56) hx hb dX5_count_1 (by rw [h_2]; decide) (by rw [h_2]; decide) (by rw [h_2]; rfl) (by decide) ?_
      refine lv_aload_n hx hb dX5_count_56 rfl (lv_at hl 0 rfl) ?_
      refine mx_get (v := .ref (mad E (0))) (ci := 5) (C := RX5) (T := TX5) (N := 6) X Z hc.i (hc.c _) rfl inlX5 1 (by decide) wd_1_18 rfl dX5_count_57 ?_
      refine mx_get (v := .int (G 0 4)) (ci := 3) (C := RX3) (T := TX3) (N := 11) X Z hc.now.i (hc.now.c _) rfl inlX3 4 (by decide) wd_15_15 rfl dX5_count_60 ?_
      cases hT
      exact W.iret hx hb hr (fun t ht hW => mx_end Z t ht _) Z.2.2.2 dX5_count_63
    · replace hT := mx_f hT h_2
      by_cases h_3 : x1 = 2
      · replace hT := mx_t hT h_3
        refine lv_tableIn (tgt := 64) hx hb dX5_count_1 (by rw [h_3]; decide) (by rw [h_3]; decide) (by rw [h_3]; rfl) (by decide) ?_
        refine lv_aload_n hx hb dX5_count_64 rfl (lv_at hl 0 rfl) ?_
        refine mx_get (v := .ref (mad E (0))) (ci := 5) (C := RX5) (T := TX5) (N := 6) X Z hc.i (hc.c _) rfl inlX5 1 (by decide) wd_1_18 rfl dX5_count_65 ?_
        refine mx_get (v := .int (G 0 9)) (ci := 3) (C := RX3) (T := TX3) (N := 11) X Z hc.now.i (hc.now.c _) rfl inlX3 9 (by decide) wd_9_16 rfl dX5_count_68 ?_
        cases hT
        exact W.iret hx hb hr (fun t ht hW => mx_end Z t ht _) Z.2.2.2 dX5_count_71
      · replace hT := mx_f hT h_3
        by_cases h_4 : x1 = 3
        · replace hT := mx_t hT h_4
          refine lv_tableIn (tgt := 72) hx hb dX5_count_1 (by rw [h_4]; decide) (by rw [h_4]; decide) (by rw [h_4]; rfl) (by decide) ?_
          refine lv_aload_n hx hb dX5_count_72 rfl (lv_at hl 0 rfl) ?_
          refine mx_get (v := .ref (mad E (0))) (ci := 5) (C := RX5) (T := TX5) (N := 6) X Z hc.i (hc.c _) rfl inlX5 1 (by decide) wd_1_18 rfl dX5_count_73 ?_
          obtain ⟨q_5, h_q_5, hT⟩ := mx_bind hT
          refine mx_callV (As := []) (rest := []) (st1 := [.int (q_5)]) (C := RX3) (T := TX3) (N := 11) (ci := 3) X Z hl.1 (c3_greatestSinking l E hJ hc.now _ _ h_q_5) wd_15_16 wd_15_17 wd_15_18 wd_1_16 wd_15_19 hd3_greatestSinking ⟨Nat.le_trans (by decide) hR.1, Nat.le_trans (by decide) hR.2⟩ ⟨Nat.zero_le _, Nat.zero_le _⟩ hc.now.i (hc.now.c _) rfl (Nat.le_of_ble_eq_true rfl) rfl rfl dX5_count_76 (fun H locs Z => ?_)
          cases hT
          exact W.iret hx hb hr (fun t ht hW => mx_end Z t ht _) Z.2.2.2 dX5_count_79
        · replace hT := mx_f hT h_4
          by_cases h_6 : x1 = 4
          · replace hT := mx_t hT h_6
            refine lv_tableIn (tgt := 80) hx hb dX5_count_1 (by rw [h_6]; decide) (by rw [h_6]; decide) (by rw [h_6]; rfl) (by decide) ?_
            refine lv_aload_n hx hb dX5_count_80 rfl (lv_at hl 0 rfl) ?_
            refine mx_get (v := .ref (mad E (0))) (ci := 5) (C := RX5) (T := TX5) (N := 6) X Z hc.i (hc.c _) rfl inlX5 1 (by decide) wd_1_18 rfl dX5_count_81 ?_
            obtain ⟨q_7, h_q_7, hT⟩ := mx_bind hT
            refine mx_callV (As := []) (rest := []) (st1 := [.int (q_7)]) (C := RX3) (T := TX3) (N := 11) (ci := 3) X Z hl.1 (c3_waitsOfAll l E hJ hc.now _ _ h_q_7) wd_16_0 wd_16_1 wd_16_2 wd_1_16 wd_16_3 hd3_waitsOfAll ⟨Nat.le_trans (by decide) hR.1, Nat.le_trans (by decide) hR.2⟩ ⟨Nat.zero_le _, Nat.zero_le _⟩ hc.now.i (hc.now.c _) rfl (Nat.le_of_ble_eq_true rfl) rfl rfl dX5_count_84 (fun H locs Z => ?_)
            cases hT
            exact W.iret hx hb hr (fun t ht hW => mx_end Z t ht _) Z.2.2.2 dX5_count_87
          · replace hT := mx_f hT h_6
            by_cases h_8 : x1 = 5
            · replace hT := mx_t hT h_8
              refine lv_tableIn (tgt := 88) hx hb dX5_count_1 (by rw [h_8]; decide) (by rw [h_8]; decide) (by rw [h_8]; rfl) (by decide) ?_
              refine lv_aload_n hx hb dX5_count_88 rfl (lv_at hl 0 rfl) ?_
              refine mx_get (v := .ref (mad E (243))) (ci := 5) (C := RX5) (T := TX5) (N := 6) X Z hc.i (hc.c _) rfl inlX5 3 (by decide) wd_1_23 rfl dX5_count_89 ?_
              obtain ⟨q_9, h_q_9, hT⟩ := mx_bind hT
              refine mx_callV (As := []) (rest := []) (st1 := [.int (q_9)]) (C := RX0) (T := TX0) (N := 2) (ci := 0) X Z hl.1 (c0_size l E hJ hc.hi _ _ h_q_9) wd_7_21 wd_7_22 wd_7_23 wd_1_22 wd_8_0 hd0_size ⟨Nat.le_trans (by decide) hR.1, Nat.le_trans (by decide) hR.2⟩ ⟨Nat.zero_le _, Nat.zero_le _⟩ hc.hi.i (hc.hi.c _) rfl (Nat.le_of_ble_eq_true rfl) rfl rfl dX5_count_92 (fun H locs Z => ?_)
              cases hT
              exact W.iret hx hb hr (fun t ht hW => mx_end Z t ht _) Z.2.2.2 dX5_count_95
            · replace hT := mx_f hT h_8
              by_cases h_10 : x1 = 6
              · replace hT := mx_t hT h_10
                refine lv_tableIn (tgt := 96) hx hb dX5_count_1 (by rw [h_10]; decide) (by rw [h_10]; decide) (by rw [h_10]; rfl) (by decide) ?_
                refine lv_aload_n hx hb dX5_count_96 rfl (lv_at hl 0 rfl) ?_
                refine mx_get (v := .int (G 240 5)) (ci := 5) (C := RX5) (T := TX5) (N := 6) X Z hc.i (hc.c _) rfl inlX5 5 (by decide) wd_9_15 rfl dX5_count_97 ?_
                cases hT
                exact W.iret hx hb hr (fun t ht hW => mx_end Z t ht _) Z.2.2.2 dX5_count_100
              · replace hT := mx_f hT h_10
                by_cases h_11 : x1 = 7
                · replace hT := mx_t hT h_11
                  refine lv_tableIn (tgt := 101) hx hb dX5_count_1 (by rw [h_11]; decide) (by rw [h_11]; decide) (by rw [h_11]; rfl) (by decide) ?_
                  refine lv_aload_n hx hb dX5_count_101 rfl (lv_at hl 0 rfl) ?_
                  refine mx_get (v := .ref (mad E (0))) (ci := 5) (C := RX5) (T := TX5) (N := 6) X Z hc.i (hc.c _) rfl inlX5 1 (by decide) wd_1_18 rfl dX5_count_102 ?_
                  obtain ⟨q_12, h_q_12, hT⟩ := mx_bind hT
                  refine mx_callV (As := []) (rest := []) (st1 := [.int (q_12)]) (C := RX3) (T := TX3) (N := 11) (ci := 3) X Z hl.1 (c3_sunkSegments l E hJ hc.now _ _ h_q_12) wd_16_5 wd_16_6 wd_16_7 wd_1_16 wd_16_8 hd3_sunkSegments ⟨Nat.le_trans (by decide) hR.1, Nat.le_trans (by decide) hR.2⟩ ⟨Nat.zero_le _, Nat.zero_le _⟩ hc.now.i (hc.now.c _) rfl (Nat.le_of_ble_eq_true rfl) rfl rfl dX5_count_105 (fun H locs Z => ?_)
                  cases hT
                  exact W.iret hx hb hr (fun t ht hW => mx_end Z t ht _) Z.2.2.2 dX5_count_108
                · replace hT := mx_f hT h_11
                  refine lv_tableOut (tgt := 109) hx hb dX5_count_1 (mx_out (n := 7) (by decide) (fun k hk => by rcases (show k = 0 ∨ k = 1 ∨ k = 2 ∨ k = 3 ∨ k = 4 ∨ k = 5 ∨ k = 6 ∨ k = 7 by omega) with rfl | rfl | rfl | rfl | rfl | rfl | rfl | rfl <;> assumption)) (by decide) ?_
                  refine lv_bipush (v := (-2 : Int32)) hx hb dX5_count_109 (by decide) ?_
                  cases hT
                  exact W.iret hx hb hr (fun t ht hW => mx_end Z t ht _) Z.2.2.2 dX5_count_111
/-! PeatRailway.setting -/
def x5_setting (x1 : Int32) (G : mM) : Option Int32 :=
  (x5_isSetting x1 G).bind fun q_1 =>
  if q_1 = 0 then
    some ((-2 : Int32))
  else
    mCk (mIn x1 3) <|
    some (G ((0 + 3)) x1.toNatClampNeg)
theorem hd5_setting : yX5_setting.cls = RX5 ∧ yX5_setting.cls ≠ "java/lang/invoke/MethodHandle" ∧ yX5_setting.cls ≠ "java/lang/invoke/VarHandle" ∧ (parseMethodDescriptor yX5_setting.desc).map (fun d => d.parameters.length) = some 1 := by decide +kernel
set_option maxHeartbeats 4000000 in
set_option maxRecDepth 100000 in
theorem c5_setting (l : Launch) (E : mE) (hJ : mJ E) (hc : mAl E 240) (x1 : Int32) (G : mM) (q : Int32) (hT : x5_setting x1 G = some q) : mMet l E yX5_setting cX5_setting 2 (some .int) 1 20 [.ref (mad E (240)), .int (x1)] G (some (.int q)) G := by
  refine Met.ofW (cc := cX5_setting) (maxL := 2) (ret := (some .int)) (by decide) rfl ?_
  intro p e s m args below meth cd s₁ B hml hv
  obtain ⟨rfl, hP, hK, hS⟩ := hv
  have X := mx_entry (own := RX5) B hml hK hJ hS rfl
  have hx := X.1
  have hb := X.2.1
  have hown := X.2.2.2.1
  have hts := X.2.2.2.2.1
  have hr := B.returns
  have hlocks := B.notSynchronized
  have hR : 1 ≤ (headSpec (mWs yX5_setting cX5_setting 2 (some .int)) ({ frames := 1, cells := 0, slots := 0, locals := 20 })).room.frames ∧ 20 ≤ (headSpec (mWs yX5_setting cX5_setting 2 (some .int)) ({ frames := 1, cells := 0, slots := 0, locals := 20 })).room.locals := ⟨Nat.le_refl _, Nat.le_refl _⟩
  have Z : mZ E s.heap s.heap [] G := ⟨hP, va_S.rf⟩
  have hl := lv_entry ([.ref (mad E (240)), .int (x1)]) (n := 2) (Nat.le_of_ble_eq_true rfl)
  rw [lg_entry_eq]
  generalize (lg_sl ([.ref (mad E (240)), .int (x1)]) ++ List.replicate (2 - (lg_sl ([.ref (mad E (240)), .int (x1)])).length) Slot.unset).toArray = ls at hl ⊢
  have hl : lv_has ls 2 [(0, .ref (mad E (240))), (1, .int (x1))] := hl
  unfold x5_setting at hT
  refine lv_iload_n hx hb dX5_setting_0 rfl (lv_at hl 1 rfl) ?_
  obtain ⟨q_1, h_q_1, hT⟩ := mx_bind hT
  refine mx_callS (As := [.int (x1)]) (rest := []) (st1 := [.int (q_1)]) X Z hl.1 (c5_isSetting l E hJ _ _ _ h_q_1) wd_14_15 wd_14_16 wd_1_2 wd_14_17 hd5_isSetting ⟨Nat.le_trans (by decide) hR.1, Nat.le_trans (by decide) hR.2⟩ ⟨Nat.zero_le _, Nat.zero_le _⟩ (Nat.le_of_ble_eq_true rfl) rfl rfl dX5_setting_1 (fun H locs Z => ?_)
  refine lv_if_eq (tgt := 19) hx hb dX5_setting_4 (by decide) (fun h_2 => ?_) (fun h_2 => ?_)
  · replace hT := mx_t hT h_2
    refine lv_bipush (v := (-2 : Int32)) hx hb dX5_setting_19 (by decide) ?_
    cases hT
    exact W.iret hx hb hr (fun t ht hW => mx_end Z t ht _) Z.2.2.2 dX5_setting_21
  · replace hT := mx_f hT h_2
    refine lv_aload_n hx hb dX5_setting_7 rfl (lv_at hl 0 rfl) ?_
    refine mx_get (v := .ref (mad E (0))) (ci := 5) (C := RX5) (T := TX5) (N := 6) X Z hc.i (hc.c _) rfl inlX5 1 (by decide) wd_1_18 rfl dX5_setting_8 ?_
    refine mx_get (v := .ref (mad E ((0 + 3)))) (ci := 3) (C := RX3) (T := TX3) (N := 11) X Z hc.now.i (hc.now.c _) rfl inlX3 2 (by decide) wd_10_16 rfl dX5_setting_11 ?_
    refine lv_iload_n hx hb dX5_setting_14 rfl (lv_at hl 1 rfl) ?_
    obtain ⟨h_3, hT⟩ := mx_chk hT
    refine mx_iald X Z hc.now.sets h_3 dX5_setting_15 ?_
    refine lv_goto (tgt := 21) hx hb dX5_setting_16 (by decide) ?_
    cases hT
    exact W.iret hx hb hr (fun t ht hW => mx_end Z t ht _) Z.2.2.2 dX5_setting_21
/-! PeatRailway.foreseen -/
def x5_foreseen (x1 : Int32) (G : mM) : Option Int32 :=
  if x1 = 0 then
    some ((G 20 7) - (G 0 7))
  else
    if x1 = 1 then
      (x3_greatestSinking 20 G).bind fun q_3 =>
      some (q_3)
    else
      if x1 = 2 then
        (x3_waitsOfAll 20 G).bind fun q_5 =>
        (x3_waitsOfAll 0 G).bind fun q_6 =>
        some (q_5 - q_6)
      else
        if x1 = 3 then
          some (G 20 10)
        else
          some ((-2 : Int32))
theorem hd5_foreseen : yX5_foreseen.cls = RX5 ∧ yX5_foreseen.cls ≠ "java/lang/invoke/MethodHandle" ∧ yX5_foreseen.cls ≠ "java/lang/invoke/VarHandle" ∧ (parseMethodDescriptor yX5_foreseen.desc).map (fun d => d.parameters.length) = some 1 := by decide +kernel
set_option maxHeartbeats 4000000 in
set_option maxRecDepth 100000 in
theorem c5_foreseen (l : Launch) (E : mE) (hJ : mJ E) (hc : mAl E 240) (x1 : Int32) (G : mM) (q : Int32) (hT : x5_foreseen x1 G = some q) : mMet l E yX5_foreseen cX5_foreseen 2 (some .int) 2 44 [.ref (mad E (240)), .int (x1)] G (some (.int q)) G := by
  refine Met.ofW (cc := cX5_foreseen) (maxL := 2) (ret := (some .int)) (by decide) rfl ?_
  intro p e s m args below meth cd s₁ B hml hv
  obtain ⟨rfl, hP, hK, hS⟩ := hv
  have X := mx_entry (own := RX5) B hml hK hJ hS rfl
  have hx := X.1
  have hb := X.2.1
  have hown := X.2.2.2.1
  have hts := X.2.2.2.2.1
  have hr := B.returns
  have hlocks := B.notSynchronized
  have hR : 2 ≤ (headSpec (mWs yX5_foreseen cX5_foreseen 2 (some .int)) ({ frames := 2, cells := 0, slots := 0, locals := 44 })).room.frames ∧ 44 ≤ (headSpec (mWs yX5_foreseen cX5_foreseen 2 (some .int)) ({ frames := 2, cells := 0, slots := 0, locals := 44 })).room.locals := ⟨Nat.le_refl _, Nat.le_refl _⟩
  have Z : mZ E s.heap s.heap [] G := ⟨hP, va_S.rf⟩
  have hl := lv_entry ([.ref (mad E (240)), .int (x1)]) (n := 2) (Nat.le_of_ble_eq_true rfl)
  rw [lg_entry_eq]
  generalize (lg_sl ([.ref (mad E (240)), .int (x1)]) ++ List.replicate (2 - (lg_sl ([.ref (mad E (240)), .int (x1)])).length) Slot.unset).toArray = ls at hl ⊢
  have hl : lv_has ls 2 [(0, .ref (mad E (240))), (1, .int (x1))] := hl
  unfold x5_foreseen at hT
  refine lv_iload_n hx hb dX5_foreseen_0 rfl (lv_at hl 1 rfl) ?_
  by_cases h_1 : x1 = 0
  · replace hT := mx_t hT h_1
    refine lv_tableIn (tgt := 32) hx hb dX5_foreseen_1 (by rw [h_1]; decide) (by rw [h_1]; decide) (by rw [h_1]; rfl) (by decide) ?_
    refine lv_aload_n hx hb dX5_foreseen_32 rfl (lv_at hl 0 rfl) ?_
    refine mx_get (v := .ref (mad E (20))) (ci := 5) (C := RX5) (T := TX5) (N := 6) X Z hc.i (hc.c _) rfl inlX5 2 (by decide) wd_1_19 rfl dX5_foreseen_33 ?_
    refine mx_get (v := .int (G 20 7)) (ci := 3) (C := RX3) (T := TX3) (N := 11) X Z hc.trial.i (hc.trial.c _) rfl inlX3 7 (by decide) wd_15_0 rfl dX5_foreseen_36 ?_
    refine lv_aload_n hx hb dX5_foreseen_39 rfl (lv_at hl 0 rfl) ?_
    refine mx_get (v := .ref (mad E (0))) (ci := 5) (C := RX5) (T := TX5) (N := 6) X Z hc.i (hc.c _) rfl inlX5 1 (by decide) wd_1_18 rfl dX5_foreseen_40 ?_
    refine mx_get (v := .int (G 0 7)) (ci := 3) (C := RX3) (T := TX3) (N := 11) X Z hc.now.i (hc.now.c _) rfl inlX3 7 (by decide) wd_15_0 rfl dX5_foreseen_43 ?_
    refine lv_isub hx hb dX5_foreseen_46 ?_
    cases hT
    exact W.iret hx hb hr (fun t ht hW => mx_end Z t ht _) Z.2.2.2 dX5_foreseen_47
  · replace hT := mx_f hT h_1
    by_cases h_2 : x1 = 1
    · replace hT := mx_t hT h_2
      refine lv_tableIn (tgt := 48) hx hb dX5_foreseen_1 (by rw [h_2]; decide) (by rw [h_2]; decide) (by rw [h_2]; rfl) (by decide) ?_
      refine lv_aload_n hx hb dX5_foreseen_48 rfl (lv_at hl 0 rfl) ?_
      refine mx_get (v := .ref (mad E (20))) (ci := 5) (C := RX5) (T := TX5) (N := 6) X Z hc.i (hc.c _) rfl inlX5 2 (by decide) wd_1_19 rfl dX5_foreseen_49 ?_
      obtain ⟨q_3, h_q_3, hT⟩ := mx_bind hT
      refine mx_callV (As := []) (rest := []) (st1 := [.int (q_3)]) (C := RX3) (T := TX3) (N := 11) (ci := 3) X Z hl.1 (c3_greatestSinking l E hJ hc.trial _ _ h_q_3) wd_15_16 wd_15_17 wd_15_18 wd_1_16 wd_15_19 hd3_greatestSinking ⟨Nat.le_trans (by decide) hR.1, Nat.le_trans (by decide) hR.2⟩ ⟨Nat.zero_le _, Nat.zero_le _⟩ hc.trial.i (hc.trial.c _) rfl (Nat.le_of_ble_eq_true rfl) rfl rfl dX5_foreseen_52 (fun H locs Z => ?_)
      cases hT
      exact W.iret hx hb hr (fun t ht hW => mx_end Z t ht _) Z.2.2.2 dX5_foreseen_55
    · replace hT := mx_f hT h_2
      by_cases h_4 : x1 = 2
      · replace hT := mx_t hT h_4
        refine lv_tableIn (tgt := 56) hx hb dX5_foreseen_1 (by rw [h_4]; decide) (by rw [h_4]; decide) (by rw [h_4]; rfl) (by decide) ?_
        refine lv_aload_n hx hb dX5_foreseen_56 rfl (lv_at hl 0 rfl) ?_
        refine mx_get (v := .ref (mad E (20))) (ci := 5) (C := RX5) (T := TX5) (N := 6) X Z hc.i (hc.c _) rfl inlX5 2 (by decide) wd_1_19 rfl dX5_foreseen_57 ?_
        obtain ⟨q_5, h_q_5, hT⟩ := mx_bind hT
        refine mx_callV (As := []) (rest := []) (st1 := [.int (q_5)]) (C := RX3) (T := TX3) (N := 11) (ci := 3) X Z hl.1 (c3_waitsOfAll l E hJ hc.trial _ _ h_q_5) wd_16_0 wd_16_1 wd_16_2 wd_1_16 wd_16_3 hd3_waitsOfAll ⟨Nat.le_trans (by decide) hR.1, Nat.le_trans (by decide) hR.2⟩ ⟨Nat.zero_le _, Nat.zero_le _⟩ hc.trial.i (hc.trial.c _) rfl (Nat.le_of_ble_eq_true rfl) rfl rfl dX5_foreseen_60 (fun H locs Z => ?_)
        refine lv_aload_n hx hb dX5_foreseen_63 rfl (lv_at hl 0 rfl) ?_
        refine mx_get (v := .ref (mad E (0))) (ci := 5) (C := RX5) (T := TX5) (N := 6) X Z hc.i (hc.c _) rfl inlX5 1 (by decide) wd_1_18 rfl dX5_foreseen_64 ?_
        obtain ⟨q_6, h_q_6, hT⟩ := mx_bind hT
        refine mx_callV (As := []) (rest := [.int (q_5)]) (st1 := [.int (q_6), .int (q_5)]) (C := RX3) (T := TX3) (N := 11) (ci := 3) X Z hl.1 (c3_waitsOfAll l E hJ hc.now _ _ h_q_6) wd_16_0 wd_16_1 wd_16_2 wd_1_16 wd_16_3 hd3_waitsOfAll ⟨Nat.le_trans (by decide) hR.1, Nat.le_trans (by decide) hR.2⟩ ⟨Nat.zero_le _, Nat.zero_le _⟩ hc.now.i (hc.now.c _) rfl (Nat.le_of_ble_eq_true rfl) rfl rfl dX5_foreseen_67 (fun H locs Z => ?_)
        refine lv_isub hx hb dX5_foreseen_70 ?_
        cases hT
        exact W.iret hx hb hr (fun t ht hW => mx_end Z t ht _) Z.2.2.2 dX5_foreseen_71
      · replace hT := mx_f hT h_4
        by_cases h_7 : x1 = 3
        · replace hT := mx_t hT h_7
          refine lv_tableIn (tgt := 72) hx hb dX5_foreseen_1 (by rw [h_7]; decide) (by rw [h_7]; decide) (by rw [h_7]; rfl) (by decide) ?_
          refine lv_aload_n hx hb dX5_foreseen_72 rfl (lv_at hl 0 rfl) ?_
          refine mx_get (v := .ref (mad E (20))) (ci := 5) (C := RX5) (T := TX5) (N := 6) X Z hc.i (hc.c _) rfl inlX5 2 (by decide) wd_1_19 rfl dX5_foreseen_73 ?_
          refine mx_get (v := .int (G 20 10)) (ci := 3) (C := RX3) (T := TX3) (N := 11) X Z hc.trial.i (hc.trial.c _) rfl inlX3 10 (by decide) wd_23_14 rfl dX5_foreseen_76 ?_
          cases hT
          exact W.iret hx hb hr (fun t ht hW => mx_end Z t ht _) Z.2.2.2 dX5_foreseen_79
        · replace hT := mx_f hT h_7
          refine lv_tableOut (tgt := 80) hx hb dX5_foreseen_1 (mx_out (n := 3) (by decide) (fun k hk => by rcases (show k = 0 ∨ k = 1 ∨ k = 2 ∨ k = 3 by omega) with rfl | rfl | rfl | rfl <;> assumption)) (by decide) ?_
          refine lv_bipush (v := (-2 : Int32)) hx hb dX5_foreseen_80 (by decide) ?_
          cases hT
          exact W.iret hx hb hr (fun t ht hW => mx_end Z t ht _) Z.2.2.2 dX5_foreseen_82
/-! PeatRailway.ifRun -/
def x5_ifRun (x1 : Int32) (x2 : Int32) (G : mM) : Option (Int32 × mM) :=
  (x5_isRun x1 G).bind fun q_1 =>
  if q_1 = 0 then
    some ((-2 : Int32), G)
  else
    if x2 < 0 then
      some ((-2 : Int32), G)
    else
      if x2 < ((4 : Int32)) then
        (x3_copyFrom 20 0 G).bind fun q_5 =>
        (x3_pass 20 x1 q_5).bind fun q_6 =>
        (x5_foreseen x2 q_6.2).bind fun q_7 =>
        some (q_7, q_6.2)
      else
        some ((-2 : Int32), G)
theorem hd5_ifRun : yX5_ifRun.cls = RX5 ∧ yX5_ifRun.cls ≠ "java/lang/invoke/MethodHandle" ∧ yX5_ifRun.cls ≠ "java/lang/invoke/VarHandle" ∧ (parseMethodDescriptor yX5_ifRun.desc).map (fun d => d.parameters.length) = some 2 := by decide +kernel
set_option maxHeartbeats 4000000 in
set_option maxRecDepth 100000 in
theorem c5_ifRun (l : Launch) (E : mE) (hJ : mJ E) (hc : mAl E 240) (x1 : Int32) (x2 : Int32) (G : mM) (q : (Int32 × mM)) (hT : x5_ifRun x1 x2 G = some q) : mMet l E yX5_ifRun cX5_ifRun 3 (some .int) 6 138 [.ref (mad E (240)), .int (x1), .int (x2)] G (some (.int q.1)) q.2 := by
  refine Met.ofW (cc := cX5_ifRun) (maxL := 3) (ret := (some .int)) (by decide) rfl ?_
  intro p e s m args below meth cd s₁ B hml hv
  obtain ⟨rfl, hP, hK, hS⟩ := hv
  have X := mx_entry (own := RX5) B hml hK hJ hS rfl
  have hx := X.1
  have hb := X.2.1
  have hown := X.2.2.2.1
  have hts := X.2.2.2.2.1
  have hr := B.returns
  have hlocks := B.notSynchronized
  have hR : 6 ≤ (headSpec (mWs yX5_ifRun cX5_ifRun 3 (some .int)) ({ frames := 6, cells := 0, slots := 0, locals := 138 })).room.frames ∧ 138 ≤ (headSpec (mWs yX5_ifRun cX5_ifRun 3 (some .int)) ({ frames := 6, cells := 0, slots := 0, locals := 138 })).room.locals := ⟨Nat.le_refl _, Nat.le_refl _⟩
  have Z : mZ E s.heap s.heap [] G := ⟨hP, va_S.rf⟩
  have hl := lv_entry ([.ref (mad E (240)), .int (x1), .int (x2)]) (n := 3) (Nat.le_of_ble_eq_true rfl)
  rw [lg_entry_eq]
  generalize (lg_sl ([.ref (mad E (240)), .int (x1), .int (x2)]) ++ List.replicate (3 - (lg_sl ([.ref (mad E (240)), .int (x1), .int (x2)])).length) Slot.unset).toArray = ls at hl ⊢
  have hl : lv_has ls 3 [(0, .ref (mad E (240))), (1, .int (x1)), (2, .int (x2))] := hl
  unfold x5_ifRun at hT
  refine lv_iload_n hx hb dX5_ifRun_0 rfl (lv_at hl 1 rfl) ?_
  obtain ⟨q_1, h_q_1, hT⟩ := mx_bind hT
  refine mx_callS (As := [.int (x1)]) (rest := []) (st1 := [.int (q_1)]) X Z hl.1 (c5_isRun l E hJ _ _ _ h_q_1) wd_17_19 wd_17_20 wd_1_2 wd_17_21 hd5_isRun ⟨Nat.le_trans (by decide) hR.1, Nat.le_trans (by decide) hR.2⟩ ⟨Nat.zero_le _, Nat.zero_le _⟩ (Nat.le_of_ble_eq_true rfl) rfl rfl dX5_ifRun_1 (fun H locs Z => ?_)
  refine lv_if_eq (tgt := 16) hx hb dX5_ifRun_4 (by decide) (fun h_2 => ?_) (fun h_2 => ?_)
  · replace hT := mx_t hT h_2
    refine lv_bipush (v := (-2 : Int32)) hx hb dX5_ifRun_16 (by decide) ?_
    cases hT
    exact W.iret hx hb hr (fun t ht hW => mx_end Z t ht _) Z.2.2.2 dX5_ifRun_18
  · replace hT := mx_f hT h_2
    refine lv_iload_n hx hb dX5_ifRun_7 rfl (lv_at hl 2 rfl) ?_
    refine lv_if_lt (tgt := 16) hx hb dX5_ifRun_8 (by decide) (fun h_3 => ?_) (fun h_3 => ?_)
    · replace hT := mx_t hT h_3
      refine lv_bipush (v := (-2 : Int32)) hx hb dX5_ifRun_16 (by decide) ?_
      cases hT
      exact W.iret hx hb hr (fun t ht hW => mx_end Z t ht _) Z.2.2.2 dX5_ifRun_18
    · replace hT := mx_f hT h_3
      refine lv_iload_n hx hb dX5_ifRun_11 rfl (lv_at hl 2 rfl) ?_
      refine lv_iconst (v := (4 : Int32)) hx hb dX5_ifRun_12 (by decide) ?_
      refine lv_icmp_lt (tgt := 19) hx hb dX5_ifRun_13 (by decide) (fun h_4 => ?_) (fun h_4 => ?_)
      · replace hT := mx_t hT h_4
        refine lv_aload_n hx hb dX5_ifRun_19 rfl (lv_at hl 0 rfl) ?_
        refine mx_get (v := .ref (mad E (20))) (ci := 5) (C := RX5) (T := TX5) (N := 6) X Z hc.i (hc.c _) rfl inlX5 2 (by decide) wd_1_19 rfl dX5_ifRun_20 ?_
        refine lv_aload_n hx hb dX5_ifRun_23 rfl (lv_at hl 0 rfl) ?_
        refine mx_get (v := .ref (mad E (0))) (ci := 5) (C := RX5) (T := TX5) (N := 6) X Z hc.i (hc.c _) rfl inlX5 1 (by decide) wd_1_18 rfl dX5_ifRun_24 ?_
        obtain ⟨q_5, h_q_5, hT⟩ := mx_bind hT
        refine mx_callV (As := [.ref (mad E (0))]) (rest := []) (st1 := []) (C := RX3) (T := TX3) (N := 11) (ci := 3) X Z hl.1 (c3_copyFrom l E hJ hc.trial hc.now _ _ h_q_5) wd_10_4 wd_8_7 wd_8_8 wd_1_16 wd_8_9 hd3_copyFrom ⟨Nat.le_trans (by decide) hR.1, Nat.le_trans (by decide) hR.2⟩ ⟨Nat.zero_le _, Nat.zero_le _⟩ hc.trial.i (hc.trial.c _) rfl (Nat.le_of_ble_eq_true rfl) rfl rfl dX5_ifRun_27 (fun H locs Z => ?_)
        refine lv_aload_n hx hb dX5_ifRun_30 rfl (lv_at hl 0 rfl) ?_
        refine mx_get (v := .ref (mad E (20))) (ci := 5) (C := RX5) (T := TX5) (N := 6) X Z hc.i (hc.c _) rfl inlX5 2 (by decide) wd_1_19 rfl dX5_ifRun_31 ?_
        refine lv_iload_n hx hb dX5_ifRun_34 rfl (lv_at hl 1 rfl) ?_
        obtain ⟨q_6, h_q_6, hT⟩ := mx_bind hT
        refine mx_callV (As := [.int (x1)]) (rest := []) (st1 := [.int (q_6.1)]) (C := RX3) (T := TX3) (N := 11) (ci := 3) X Z hl.1 (c3_pass l E hJ hc.trial _ _ _ h_q_6) wd_17_22 wd_17_23 wd_18_0 wd_1_16 wd_18_1 hd3_pass ⟨Nat.le_trans (by decide) hR.1, Nat.le_trans (by decide) hR.2⟩ ⟨Nat.zero_le _, Nat.zero_le _⟩ hc.trial.i (hc.trial.c _) rfl (Nat.le_of_ble_eq_true rfl) rfl rfl dX5_ifRun_35 (fun H locs Z => ?_)
        refine lv_pop hx hb dX5_ifRun_38 rfl ?_
        refine lv_aload_n hx hb dX5_ifRun_39 rfl (lv_at hl 0 rfl) ?_
        refine lv_iload_n hx hb dX5_ifRun_40 rfl (lv_at hl 2 rfl) ?_
        obtain ⟨q_7, h_q_7, hT⟩ := mx_bind hT
        refine mx_callV (As := [.int (x2)]) (rest := []) (st1 := [.int (q_7)]) (C := RX5) (T := TX5) (N := 6) (ci := 5) X Z hl.1 (c5_foreseen l E hJ hc _ _ _ h_q_7) wd_23_10 wd_23_11 wd_23_12 wd_1_2 wd_23_13 hd5_foreseen ⟨Nat.le_trans (by decide) hR.1, Nat.le_trans (by decide) hR.2⟩ ⟨Nat.zero_le _, Nat.zero_le _⟩ hc.i (hc.c _) rfl (Nat.le_of_ble_eq_true rfl) rfl rfl dX5_ifRun_41 (fun H locs Z => ?_)
        cases hT
        exact W.iret hx hb hr (fun t ht hW => mx_end Z t ht _) Z.2.2.2 dX5_ifRun_44
      · replace hT := mx_f hT h_4
        refine lv_bipush (v := (-2 : Int32)) hx hb dX5_ifRun_16 (by decide) ?_
        cases hT
        exact W.iret hx hb hr (fun t ht hW => mx_end Z t ht _) Z.2.2.2 dX5_ifRun_18
/-! PeatRailway.ticksFor -/
def x5_ticksFor_L28 (y1 : Int32) : Nat → Int32 → mM → Option (Nat × Int32 × mM)
  | 0, _, _ => none
  | n + 1, w2, G =>
    if ((500 : Int32)) < w2 then
      some (0, 0, G)
    else
      (x3_tick 20 G).bind fun q_5 =>
      if ((q_5 20 7) - (q_5 0 7)) < y1 then
        mNm (w2 + (1 : Int32)) fun v_7 =>
        x5_ticksFor_L28 y1 n v_7 q_5
      else
        some (1, w2, q_5)
def x5_ticksFor (x1 : Int32) (G : mM) : Option (Int32 × mM) :=
  if x1 < ((1 : Int32)) then
    some ((-2 : Int32), G)
  else
    if x1 ≤ ((1000 : Int32)) then
      (x3_copyFrom 20 0 G).bind fun q_3 =>
      (x5_ticksFor_L28 x1 mFu ((1 : Int32)) q_3).bind fun q_8 =>
      if q_8.1 = 0 then
        some ((-1 : Int32), q_8.2.2)
      else
        some (q_8.2.1, q_8.2.2)
    else
      some ((-2 : Int32), G)
theorem hd5_ticksFor : yX5_ticksFor.cls = RX5 ∧ yX5_ticksFor.cls ≠ "java/lang/invoke/MethodHandle" ∧ yX5_ticksFor.cls ≠ "java/lang/invoke/VarHandle" ∧ (parseMethodDescriptor yX5_ticksFor.desc).map (fun d => d.parameters.length) = some 1 := by decide +kernel
set_option maxHeartbeats 4000000 in
set_option maxRecDepth 100000 in
theorem k5_ticksFor_28 {p : Program} {l : Launch} {e : Env} {R : Room} {s : State} {m : MethodId} {args : Array Value} {below : List Frame} {meth : Method} {cd : Code} {Q : State → Prop} {E : mE} (X : mX p s m args cd cX5_ticksFor 3 RX5 E) (hR : 5 ≤ R.frames ∧ 115 ≤ R.locals) (hJ : mJ E) (hy0 : mAl E 240) (y1 : Int32) : ∀ (n : Nat) (w2 : Int32) (G : mM) (H : Heap) (locs : List Loc) (ls : Array Slot) (r : Nat × Int32 × mM), x5_ticksFor_L28 y1 n w2 G = some r → mZ E s.heap H locs G → lv_has ls 3 [(0, .ref (mad E (240))), (1, .int (y1)), (2, .int (w2))] → (r.1 = 0 → ∀ (H : Heap) (locs : List Loc) (ls : Array Slot), mZ E s.heap H locs r.2.2 → lv_has ls 3 [(0, .ref (mad E (240))), (1, .int (y1))] → W p l e R s m args below meth cd H locs 0 0 Q (F0 m 69 ls [])) → (r.1 = 1 → ∀ (H : Heap) (locs : List Loc) (ls : Array Slot), mZ E s.heap H locs r.2.2 → lv_has ls 3 [(0, .ref (mad E (240))), (1, .int (y1)), (2, .int (r.2.1))] → W p l e R s m args below meth cd H locs 0 0 Q (F0 m 61 ls [])) → W p l e R s m args below meth cd H locs 0 0 Q (F0 m 28 ls []) := by
  have hx := X.1
  have hb := X.2.1
  have hown := X.2.2.2.1
  have hts := X.2.2.2.2.1
  intro n
  induction n with
  | zero =>
    intro w2 G H locs ls r hT
    rw [x5_ticksFor_L28] at hT
    cases hT
  | succ n ih =>
    intro w2 G H locs ls r hT Z hl k0 k1
    rw [x5_ticksFor_L28] at hT
    refine lv_iload_n hx hb dX5_ticksFor_28 rfl (lv_at hl 2 rfl) ?_
    refine lv_sipush (v := (500 : Int32)) hx hb dX5_ticksFor_29 (by decide) ?_
    refine lv_icmp_gt (tgt := 69) hx hb dX5_ticksFor_32 (by decide) (fun h_4 => ?_) (fun h_4 => ?_)
    · replace hT := mx_t hT h_4
      cases hT
      exact k0 rfl _ _ _ Z (lv_sub hl [0, 1] rfl)
    · replace hT := mx_f hT h_4
      refine lv_aload_n hx hb dX5_ticksFor_35 rfl (lv_at hl 0 rfl) ?_
      refine mx_get (v := .ref (mad E (20))) (ci := 5) (C := RX5) (T := TX5) (N := 6) X Z hy0.i (hy0.c _) rfl inlX5 2 (by decide) wd_1_19 rfl dX5_ticksFor_36 ?_
      obtain ⟨q_5, h_q_5, hT⟩ := mx_bind hT
      refine mx_callV (As := []) (rest := []) (st1 := []) (C := RX3) (T := TX3) (N := 11) (ci := 3) X Z hl.1 (c3_tick l E hJ hy0.trial _ _ h_q_5) wd_23_19 wd_18_4 wd_18_5 wd_1_16 wd_18_6 hd3_tick ⟨Nat.le_trans (by decide) hR.1, Nat.le_trans (by decide) hR.2⟩ ⟨Nat.zero_le _, Nat.zero_le _⟩ hy0.trial.i (hy0.trial.c _) rfl (Nat.le_of_ble_eq_true rfl) rfl rfl dX5_ticksFor_39 (fun H locs Z => ?_)
      refine lv_aload_n hx hb dX5_ticksFor_42 rfl (lv_at hl 0 rfl) ?_
      refine mx_get (v := .ref (mad E (20))) (ci := 5) (C := RX5) (T := TX5) (N := 6) X Z hy0.i (hy0.c _) rfl inlX5 2 (by decide) wd_1_19 rfl dX5_ticksFor_43 ?_
      refine mx_get (v := .int (q_5 20 7)) (ci := 3) (C := RX3) (T := TX3) (N := 11) X Z hy0.trial.i (hy0.trial.c _) rfl inlX3 7 (by decide) wd_15_0 rfl dX5_ticksFor_46 ?_
      refine lv_aload_n hx hb dX5_ticksFor_49 rfl (lv_at hl 0 rfl) ?_
      refine mx_get (v := .ref (mad E (0))) (ci := 5) (C := RX5) (T := TX5) (N := 6) X Z hy0.i (hy0.c _) rfl inlX5 1 (by decide) wd_1_18 rfl dX5_ticksFor_50 ?_
      refine mx_get (v := .int (q_5 0 7)) (ci := 3) (C := RX3) (T := TX3) (N := 11) X Z hy0.now.i (hy0.now.c _) rfl inlX3 7 (by decide) wd_15_0 rfl dX5_ticksFor_53 ?_
      refine lv_isub hx hb dX5_ticksFor_56 ?_
      refine lv_iload_n hx hb dX5_ticksFor_57 rfl (lv_at hl 1 rfl) ?_
      refine lv_icmp_lt (tgt := 63) hx hb dX5_ticksFor_58 (by decide) (fun h_6 => ?_) (fun h_6 => ?_)
      · replace hT := mx_t hT h_6
        obtain ⟨v_7, e_v_7, hT⟩ := mx_nm hT
        refine lv_iinc (v := v_7) (lv' := [(2, .int (v_7)), (0, .ref (mad E (240))), (1, .int (y1))]) hx hb dX5_ticksFor_63 hl (k := 2) rfl (by rw [← e_v_7]; rfl) (by decide) rfl (fun ls hl => ?_)
        refine lv_goto (tgt := 28) hx hb dX5_ticksFor_66 (by decide) ?_
        exact ih _ _ _ _ _ _ hT Z (lv_sub hl [1, 2, 0] rfl) k0 k1
      · replace hT := mx_f hT h_6
        cases hT
        exact k1 rfl _ _ _ Z (lv_sub hl [0, 1, 2] rfl)
set_option maxHeartbeats 4000000 in
set_option maxRecDepth 100000 in
theorem c5_ticksFor (l : Launch) (E : mE) (hJ : mJ E) (hc : mAl E 240) (x1 : Int32) (G : mM) (q : (Int32 × mM)) (hT : x5_ticksFor x1 G = some q) : mMet l E yX5_ticksFor cX5_ticksFor 3 (some .int) 5 115 [.ref (mad E (240)), .int (x1)] G (some (.int q.1)) q.2 := by
  refine Met.ofW (cc := cX5_ticksFor) (maxL := 3) (ret := (some .int)) (by decide) rfl ?_
  intro p e s m args below meth cd s₁ B hml hv
  obtain ⟨rfl, hP, hK, hS⟩ := hv
  have X := mx_entry (own := RX5) B hml hK hJ hS rfl
  have hx := X.1
  have hb := X.2.1
  have hown := X.2.2.2.1
  have hts := X.2.2.2.2.1
  have hr := B.returns
  have hlocks := B.notSynchronized
  have hR : 5 ≤ (headSpec (mWs yX5_ticksFor cX5_ticksFor 3 (some .int)) ({ frames := 5, cells := 0, slots := 0, locals := 115 })).room.frames ∧ 115 ≤ (headSpec (mWs yX5_ticksFor cX5_ticksFor 3 (some .int)) ({ frames := 5, cells := 0, slots := 0, locals := 115 })).room.locals := ⟨Nat.le_refl _, Nat.le_refl _⟩
  have Z : mZ E s.heap s.heap [] G := ⟨hP, va_S.rf⟩
  have hl := lv_entry ([.ref (mad E (240)), .int (x1)]) (n := 3) (Nat.le_of_ble_eq_true rfl)
  rw [lg_entry_eq]
  generalize (lg_sl ([.ref (mad E (240)), .int (x1)]) ++ List.replicate (3 - (lg_sl ([.ref (mad E (240)), .int (x1)])).length) Slot.unset).toArray = ls at hl ⊢
  have hl : lv_has ls 3 [(0, .ref (mad E (240))), (1, .int (x1))] := hl
  unfold x5_ticksFor at hT
  refine lv_iload_n hx hb dX5_ticksFor_0 rfl (lv_at hl 1 rfl) ?_
  refine lv_iconst (v := (1 : Int32)) hx hb dX5_ticksFor_1 (by decide) ?_
  refine lv_icmp_lt (tgt := 12) hx hb dX5_ticksFor_2 (by decide) (fun h_1 => ?_) (fun h_1 => ?_)
  · replace hT := mx_t hT h_1
    refine lv_bipush (v := (-2 : Int32)) hx hb dX5_ticksFor_12 (by decide) ?_
    cases hT
    exact W.iret hx hb hr (fun t ht hW => mx_end Z t ht _) Z.2.2.2 dX5_ticksFor_14
  · replace hT := mx_f hT h_1
    refine lv_iload_n hx hb dX5_ticksFor_5 rfl (lv_at hl 1 rfl) ?_
    refine lv_sipush (v := (1000 : Int32)) hx hb dX5_ticksFor_6 (by decide) ?_
    refine lv_icmp_le (tgt := 15) hx hb dX5_ticksFor_9 (by decide) (fun h_2 => ?_) (fun h_2 => ?_)
    · replace hT := mx_t hT h_2
      refine lv_aload_n hx hb dX5_ticksFor_15 rfl (lv_at hl 0 rfl) ?_
      refine mx_get (v := .ref (mad E (20))) (ci := 5) (C := RX5) (T := TX5) (N := 6) X Z hc.i (hc.c _) rfl inlX5 2 (by decide) wd_1_19 rfl dX5_ticksFor_16 ?_
      refine lv_aload_n hx hb dX5_ticksFor_19 rfl (lv_at hl 0 rfl) ?_
      refine mx_get (v := .ref (mad E (0))) (ci := 5) (C := RX5) (T := TX5) (N := 6) X Z hc.i (hc.c _) rfl inlX5 1 (by decide) wd_1_18 rfl dX5_ticksFor_20 ?_
      obtain ⟨q_3, h_q_3, hT⟩ := mx_bind hT
      refine mx_callV (As := [.ref (mad E (0))]) (rest := []) (st1 := []) (C := RX3) (T := TX3) (N := 11) (ci := 3) X Z hl.1 (c3_copyFrom l E hJ hc.trial hc.now _ _ h_q_3) wd_10_4 wd_8_7 wd_8_8 wd_1_16 wd_8_9 hd3_copyFrom ⟨Nat.le_trans (by decide) hR.1, Nat.le_trans (by decide) hR.2⟩ ⟨Nat.zero_le _, Nat.zero_le _⟩ hc.trial.i (hc.trial.c _) rfl (Nat.le_of_ble_eq_true rfl) rfl rfl dX5_ticksFor_23 (fun H locs Z => ?_)
      refine lv_iconst (v := (1 : Int32)) hx hb dX5_ticksFor_26 (by decide) ?_
      refine lv_istore_n (lv' := [(2, .int ((1 : Int32))), (0, .ref (mad E (240))), (1, .int (x1))]) hx hb dX5_ticksFor_27 rfl hl (by decide) rfl (fun ls hl => ?_)
      obtain ⟨q_8, h_q_8, hT⟩ := mx_bind hT
      refine k5_ticksFor_28 X hR hJ hc _ _ _ _ _ _ _ _ h_q_8 Z (lv_sub (l' := [(0, .ref (mad E (240))), (1, .int (x1)), (2, .int ((1 : Int32)))]) hl [1, 2, 0] rfl) (fun ht H locs ls Z hl => ?_) (fun ht H locs ls Z hl => ?_)
      · replace hT := mx_t hT ht
        refine lv_iconst (v := (-1 : Int32)) hx hb dX5_ticksFor_69 (by decide) ?_
        cases hT
        exact W.iret hx hb hr (fun t ht hW => mx_end Z t ht _) Z.2.2.2 dX5_ticksFor_70
      · replace hT := mx_f hT (by rw [ht]; decide)
        refine lv_iload_n hx hb dX5_ticksFor_61 rfl (lv_at hl 2 rfl) ?_
        cases hT
        exact W.iret hx hb hr (fun t ht hW => mx_end Z t ht _) Z.2.2.2 dX5_ticksFor_62
    · replace hT := mx_f hT h_2
      refine lv_bipush (v := (-2 : Int32)) hx hb dX5_ticksFor_12 (by decide) ?_
      cases hT
      exact W.iret hx hb hr (fun t ht hW => mx_end Z t ht _) Z.2.2.2 dX5_ticksFor_14
/-! PeatRailway.bestRule -/
def x5_bestRule_L25 (y1 : Int32) : Nat → Int32 → Int32 → Int32 → mM → Option (Int32 × mM)
  | 0, _, _, _, _ => none
  | n + 1, w2, w3, w4, G =>
    if (mStat 2 2) < w4 then
      some (w2, G)
    else
      (x3_copyFrom 20 0 G).bind fun q_9 =>
      mNm (up2 q_9 ((20 + 3)) 2 w4) fun G_10 =>
      (x3_pass 20 y1 G_10).bind fun q_11 =>
      if q_11.1 ≤ w3 then
        mNm (w4 + (1 : Int32)) fun v_13 =>
        x5_bestRule_L25 y1 n w2 w3 v_13 q_11.2
      else
        mNm (w4 + (1 : Int32)) fun v_14 =>
        x5_bestRule_L25 y1 n w4 q_11.1 v_14 q_11.2
def x5_bestRule (x1 : Int32) (G : mM) : Option (Int32 × mM) :=
  (x5_isRun x1 G).bind fun q_1 =>
  if q_1 = 0 then
    some ((-2 : Int32), G)
  else
    mNm (mStat 1 2) fun v_4 =>
    mNm (mStat 1 2) fun v_6 =>
    (x5_bestRule_L25 x1 mFu v_4 ((-1 : Int32)) v_6 G).bind fun q_15 =>
    some (q_15.1, q_15.2)
theorem hd5_bestRule : yX5_bestRule.cls = RX5 ∧ yX5_bestRule.cls ≠ "java/lang/invoke/MethodHandle" ∧ yX5_bestRule.cls ≠ "java/lang/invoke/VarHandle" ∧ (parseMethodDescriptor yX5_bestRule.desc).map (fun d => d.parameters.length) = some 1 := by decide +kernel
set_option maxHeartbeats 4000000 in
set_option maxRecDepth 100000 in
theorem k5_bestRule_25 {p : Program} {l : Launch} {e : Env} {R : Room} {s : State} {m : MethodId} {args : Array Value} {below : List Frame} {meth : Method} {cd : Code} {Q : State → Prop} {E : mE} (X : mX p s m args cd cX5_bestRule 6 RX5 E) (hR : 6 ≤ R.frames ∧ 138 ≤ R.locals) (hJ : mJ E) (hy0 : mAl E 240) (y1 : Int32) : ∀ (n : Nat) (w2 : Int32) (w3 : Int32) (w4 : Int32) (G : mM) (H : Heap) (locs : List Loc) (ls : Array Slot) (r : Int32 × mM), x5_bestRule_L25 y1 n w2 w3 w4 G = some r → mZ E s.heap H locs G → lv_has ls 6 [(0, .ref (mad E (240))), (1, .int (y1)), (2, .int (w2)), (3, .int (w3)), (4, .int (w4))] → (∀ (H : Heap) (locs : List Loc) (ls : Array Slot), mZ E s.heap H locs r.2 → lv_has ls 6 [(0, .ref (mad E (240))), (1, .int (y1)), (2, .int (r.1))] → W p l e R s m args below meth cd H locs 0 0 Q (F0 m 85 ls [])) → W p l e R s m args below meth cd H locs 0 0 Q (F0 m 25 ls []) := by
  have hx := X.1
  have hb := X.2.1
  have hown := X.2.2.2.1
  have hts := X.2.2.2.2.1
  intro n
  induction n with
  | zero =>
    intro w2 w3 w4 G H locs ls r hT
    rw [x5_bestRule_L25] at hT
    cases hT
  | succ n ih =>
    intro w2 w3 w4 G H locs ls r hT Z hl k0
    rw [x5_bestRule_L25] at hT
    refine lv_iload hx hb dX5_bestRule_25 (lv_at hl 4 rfl) ?_
    refine mx_stat (i := 2) X Z (by decide) wd_20_23 dX5_bestRule_27 (fun t_s_7 hs_s_7 => ?_)
    refine lv_iconst (v := (2 : Int32)) hx hb dX5_bestRule_30 (by decide) ?_
    refine va_ti hx hb hs_s_7 Z.2 (mx_lit (by decide)) (v := .int (mStat 2 2)) rfl dX5_bestRule_31 ?_
    refine lv_icmp_gt (tgt := 85) hx hb dX5_bestRule_32 (by decide) (fun h_8 => ?_) (fun h_8 => ?_)
    · replace hT := mx_t hT h_8
      cases hT
      exact k0 _ _ _ Z (lv_sub hl [0, 1, 2] rfl)
    · replace hT := mx_f hT h_8
      refine lv_aload_n hx hb dX5_bestRule_35 rfl (lv_at hl 0 rfl) ?_
      refine mx_get (v := .ref (mad E (20))) (ci := 5) (C := RX5) (T := TX5) (N := 6) X Z hy0.i (hy0.c _) rfl inlX5 2 (by decide) wd_1_19 rfl dX5_bestRule_36 ?_
      refine lv_aload_n hx hb dX5_bestRule_39 rfl (lv_at hl 0 rfl) ?_
      refine mx_get (v := .ref (mad E (0))) (ci := 5) (C := RX5) (T := TX5) (N := 6) X Z hy0.i (hy0.c _) rfl inlX5 1 (by decide) wd_1_18 rfl dX5_bestRule_40 ?_
      obtain ⟨q_9, h_q_9, hT⟩ := mx_bind hT
      refine mx_callV (As := [.ref (mad E (0))]) (rest := []) (st1 := []) (C := RX3) (T := TX3) (N := 11) (ci := 3) X Z hl.1 (c3_copyFrom l E hJ hy0.trial hy0.now _ _ h_q_9) wd_10_4 wd_8_7 wd_8_8 wd_1_16 wd_8_9 hd3_copyFrom ⟨Nat.le_trans (by decide) hR.1, Nat.le_trans (by decide) hR.2⟩ ⟨Nat.zero_le _, Nat.zero_le _⟩ hy0.trial.i (hy0.trial.c _) rfl (Nat.le_of_ble_eq_true rfl) rfl rfl dX5_bestRule_43 (fun H locs Z => ?_)
      refine lv_aload_n hx hb dX5_bestRule_46 rfl (lv_at hl 0 rfl) ?_
      refine mx_get (v := .ref (mad E (20))) (ci := 5) (C := RX5) (T := TX5) (N := 6) X Z hy0.i (hy0.c _) rfl inlX5 2 (by decide) wd_1_19 rfl dX5_bestRule_47 ?_
      refine mx_get (v := .ref (mad E ((20 + 3)))) (ci := 3) (C := RX3) (T := TX3) (N := 11) X Z hy0.trial.i (hy0.trial.c _) rfl inlX3 2 (by decide) wd_10_16 rfl dX5_bestRule_50 ?_
      refine lv_iconst (v := (2 : Int32)) hx hb dX5_bestRule_53 (by decide) ?_
      refine lv_iload hx hb dX5_bestRule_54 (lv_at hl 4 rfl) ?_
      obtain ⟨G_10, e_G_10, hT⟩ := mx_nm hT
      refine mx_iast X Z hy0.trial.sets (mx_lit (by decide)) dX5_bestRule_56 (fun H locs Z => ?_)
      replace Z : mZ E s.heap H locs (up2 q_9 ((20 + 3)) 2 w4) := Z
      rw [e_G_10] at Z
      refine lv_aload_n hx hb dX5_bestRule_57 rfl (lv_at hl 0 rfl) ?_
      refine mx_get (v := .ref (mad E (20))) (ci := 5) (C := RX5) (T := TX5) (N := 6) X Z hy0.i (hy0.c _) rfl inlX5 2 (by decide) wd_1_19 rfl dX5_bestRule_58 ?_
      refine lv_iload_n hx hb dX5_bestRule_61 rfl (lv_at hl 1 rfl) ?_
      obtain ⟨q_11, h_q_11, hT⟩ := mx_bind hT
      refine mx_callV (As := [.int (y1)]) (rest := []) (st1 := [.int (q_11.1)]) (C := RX3) (T := TX3) (N := 11) (ci := 3) X Z hl.1 (c3_pass l E hJ hy0.trial _ _ _ h_q_11) wd_17_22 wd_17_23 wd_18_0 wd_1_16 wd_18_1 hd3_pass ⟨Nat.le_trans (by decide) hR.1, Nat.le_trans (by decide) hR.2⟩ ⟨Nat.zero_le _, Nat.zero_le _⟩ hy0.trial.i (hy0.trial.c _) rfl (Nat.le_of_ble_eq_true rfl) rfl rfl dX5_bestRule_62 (fun H locs Z => ?_)
      refine lv_istore (lv' := [(5, .int (q_11.1)), (0, .ref (mad E (240))), (1, .int (y1)), (2, .int (w2)), (3, .int (w3)), (4, .int (w4))]) hx hb dX5_bestRule_65 hl (by decide) rfl (fun ls hl => ?_)
      refine lv_iload hx hb dX5_bestRule_67 (lv_at hl 0 rfl) ?_
      refine lv_iload_n hx hb dX5_bestRule_69 rfl (lv_at hl 4 rfl) ?_
      refine lv_icmp_le (tgt := 79) hx hb dX5_bestRule_70 (by decide) (fun h_12 => ?_) (fun h_12 => ?_)
      · replace hT := mx_t hT h_12
        obtain ⟨v_13, e_v_13, hT⟩ := mx_nm hT
        refine lv_iinc (v := v_13) (lv' := [(4, .int (v_13)), (5, .int (q_11.1)), (0, .ref (mad E (240))), (1, .int (y1)), (2, .int (w2)), (3, .int (w3))]) hx hb dX5_bestRule_79 hl (k := 5) rfl (by rw [← e_v_13]; rfl) (by decide) rfl (fun ls hl => ?_)
        refine lv_goto (tgt := 25) hx hb dX5_bestRule_82 (by decide) ?_
        exact ih _ _ _ _ _ _ _ _ hT Z (lv_sub hl [2, 3, 4, 5, 0] rfl) k0
      · replace hT := mx_f hT h_12
        refine lv_iload hx hb dX5_bestRule_73 (lv_at hl 0 rfl) ?_
        refine lv_istore_n (lv' := [(3, .int (q_11.1)), (5, .int (q_11.1)), (0, .ref (mad E (240))), (1, .int (y1)), (2, .int (w2)), (4, .int (w4))]) hx hb dX5_bestRule_75 rfl hl (by decide) rfl (fun ls hl => ?_)
        refine lv_iload hx hb dX5_bestRule_76 (lv_at hl 5 rfl) ?_
        refine lv_istore_n (lv' := [(2, .int (w4)), (3, .int (q_11.1)), (5, .int (q_11.1)), (0, .ref (mad E (240))), (1, .int (y1)), (4, .int (w4))]) hx hb dX5_bestRule_78 rfl hl (by decide) rfl (fun ls hl => ?_)
        obtain ⟨v_14, e_v_14, hT⟩ := mx_nm hT
        refine lv_iinc (v := v_14) (lv' := [(4, .int (v_14)), (2, .int (w4)), (3, .int (q_11.1)), (5, .int (q_11.1)), (0, .ref (mad E (240))), (1, .int (y1))]) hx hb dX5_bestRule_79 hl (k := 5) rfl (by rw [← e_v_14]; rfl) (by decide) rfl (fun ls hl => ?_)
        refine lv_goto (tgt := 25) hx hb dX5_bestRule_82 (by decide) ?_
        exact ih _ _ _ _ _ _ _ _ hT Z (lv_sub hl [4, 5, 1, 2, 0] rfl) k0
set_option maxHeartbeats 4000000 in
set_option maxRecDepth 100000 in
theorem c5_bestRule (l : Launch) (E : mE) (hJ : mJ E) (hc : mAl E 240) (x1 : Int32) (G : mM) (q : (Int32 × mM)) (hT : x5_bestRule x1 G = some q) : mMet l E yX5_bestRule cX5_bestRule 6 (some .int) 6 138 [.ref (mad E (240)), .int (x1)] G (some (.int q.1)) q.2 := by
  refine Met.ofW (cc := cX5_bestRule) (maxL := 6) (ret := (some .int)) (by decide) rfl ?_
  intro p e s m args below meth cd s₁ B hml hv
  obtain ⟨rfl, hP, hK, hS⟩ := hv
  have X := mx_entry (own := RX5) B hml hK hJ hS rfl
  have hx := X.1
  have hb := X.2.1
  have hown := X.2.2.2.1
  have hts := X.2.2.2.2.1
  have hr := B.returns
  have hlocks := B.notSynchronized
  have hR : 6 ≤ (headSpec (mWs yX5_bestRule cX5_bestRule 6 (some .int)) ({ frames := 6, cells := 0, slots := 0, locals := 138 })).room.frames ∧ 138 ≤ (headSpec (mWs yX5_bestRule cX5_bestRule 6 (some .int)) ({ frames := 6, cells := 0, slots := 0, locals := 138 })).room.locals := ⟨Nat.le_refl _, Nat.le_refl _⟩
  have Z : mZ E s.heap s.heap [] G := ⟨hP, va_S.rf⟩
  have hl := lv_entry ([.ref (mad E (240)), .int (x1)]) (n := 6) (Nat.le_of_ble_eq_true rfl)
  rw [lg_entry_eq]
  generalize (lg_sl ([.ref (mad E (240)), .int (x1)]) ++ List.replicate (6 - (lg_sl ([.ref (mad E (240)), .int (x1)])).length) Slot.unset).toArray = ls at hl ⊢
  have hl : lv_has ls 6 [(0, .ref (mad E (240))), (1, .int (x1))] := hl
  unfold x5_bestRule at hT
  refine lv_iload_n hx hb dX5_bestRule_0 rfl (lv_at hl 1 rfl) ?_
  obtain ⟨q_1, h_q_1, hT⟩ := mx_bind hT
  refine mx_callS (As := [.int (x1)]) (rest := []) (st1 := [.int (q_1)]) X Z hl.1 (c5_isRun l E hJ _ _ _ h_q_1) wd_17_19 wd_17_20 wd_1_2 wd_17_21 hd5_isRun ⟨Nat.le_trans (by decide) hR.1, Nat.le_trans (by decide) hR.2⟩ ⟨Nat.zero_le _, Nat.zero_le _⟩ (Nat.le_of_ble_eq_true rfl) rfl rfl dX5_bestRule_1 (fun H locs Z => ?_)
  refine lv_if_ne (tgt := 10) hx hb dX5_bestRule_4 (by decide) (fun h_2 => ?_) (fun h_2 => ?_)
  · replace hT := mx_f hT h_2
    refine mx_stat (i := 1) X Z (by decide) wd_20_22 dX5_bestRule_10 (fun t_s_3 hs_s_3 => ?_)
    refine lv_iconst (v := (2 : Int32)) hx hb dX5_bestRule_13 (by decide) ?_
    refine va_ti hx hb hs_s_3 Z.2 (mx_lit (by decide)) (v := .int (mStat 1 2)) rfl dX5_bestRule_14 ?_
    obtain ⟨v_4, e_v_4, hT⟩ := mx_nm hT
    refine mx_tops (congrArg (fun z => (.int (z) :: [] : List Value)) e_v_4) ?_
    refine lv_istore_n (lv' := [(2, .int (v_4)), (0, .ref (mad E (240))), (1, .int (x1))]) hx hb dX5_bestRule_15 rfl hl (by decide) rfl (fun ls hl => ?_)
    refine lv_iconst (v := (-1 : Int32)) hx hb dX5_bestRule_16 (by decide) ?_
    refine lv_istore_n (lv' := [(3, .int ((-1 : Int32))), (2, .int (v_4)), (0, .ref (mad E (240))), (1, .int (x1))]) hx hb dX5_bestRule_17 rfl hl (by decide) rfl (fun ls hl => ?_)
    refine mx_stat (i := 1) X Z (by decide) wd_20_22 dX5_bestRule_18 (fun t_s_5 hs_s_5 => ?_)
    refine lv_iconst (v := (2 : Int32)) hx hb dX5_bestRule_21 (by decide) ?_
    refine va_ti hx hb hs_s_5 Z.2 (mx_lit (by decide)) (v := .int (mStat 1 2)) rfl dX5_bestRule_22 ?_
    obtain ⟨v_6, e_v_6, hT⟩ := mx_nm hT
    refine mx_tops (congrArg (fun z => (.int (z) :: [] : List Value)) e_v_6) ?_
    refine lv_istore (lv' := [(4, .int (v_6)), (3, .int ((-1 : Int32))), (2, .int (v_4)), (0, .ref (mad E (240))), (1, .int (x1))]) hx hb dX5_bestRule_23 hl (by decide) rfl (fun ls hl => ?_)
    obtain ⟨q_15, h_q_15, hT⟩ := mx_bind hT
    refine k5_bestRule_25 X hR hJ hc _ _ _ _ _ _ _ _ _ _ h_q_15 Z (lv_sub (l' := [(0, .ref (mad E (240))), (1, .int (x1)), (2, .int (v_4)), (3, .int ((-1 : Int32))), (4, .int (v_6))]) hl [3, 4, 2, 1, 0] rfl) (fun H locs ls Z hl => ?_)
    · refine lv_iload_n hx hb dX5_bestRule_85 rfl (lv_at hl 2 rfl) ?_
      cases hT
      exact W.iret hx hb hr (fun t ht hW => mx_end Z t ht _) Z.2.2.2 dX5_bestRule_86
  · replace hT := mx_t hT h_2
    refine lv_bipush (v := (-2 : Int32)) hx hb dX5_bestRule_7 (by decide) ?_
    cases hT
    exact W.iret hx hb hr (fun t ht hW => mx_end Z t ht _) Z.2.2.2 dX5_bestRule_9
/-! PeatRailway.bestLoad -/
def x5_bestLoad_L29 (y1 : Int32) (y2 : Int32) : Nat → Int32 → Int32 → Int32 → mM → Option (Int32 × mM)
  | 0, _, _, _, _ => none
  | n + 1, w3, w4, w5, G =>
    if ((20 : Int32)) < w5 then
      some (w3, G)
    else
      (x3_copyFrom 20 0 G).bind fun q_7 =>
      (x3_trainAt 20 y1 q_7).bind fun q_8 =>
      mOpt q_8 (
        (x3_pass 20 y2 q_7).bind fun q_11 =>
        if q_11.1 ≤ w4 then
          mNm (w5 + (1 : Int32)) fun v_13 =>
          x5_bestLoad_L29 y1 y2 n w3 w4 v_13 q_11.2
        else
          mNm (w5 + (1 : Int32)) fun v_14 =>
          x5_bestLoad_L29 y1 y2 n w5 q_11.1 v_14 q_11.2) fun o_9 =>
        mNm (up2 q_7 o_9 1 w5) fun G_15 =>
        (x3_pass 20 y2 G_15).bind fun q_16 =>
        if q_16.1 ≤ w4 then
          mNm (w5 + (1 : Int32)) fun v_18 =>
          x5_bestLoad_L29 y1 y2 n w3 w4 v_18 q_16.2
        else
          mNm (w5 + (1 : Int32)) fun v_19 =>
          x5_bestLoad_L29 y1 y2 n w5 q_16.1 v_19 q_16.2
def x5_bestLoad (x1 : Int32) (x2 : Int32) (G : mM) : Option (Int32 × mM) :=
  (x3_trainAt 0 x1 G).bind fun q_1 =>
  mOpt q_1 (
    some ((-2 : Int32), G)) fun o_2 =>
    (x5_isRun x2 G).bind fun q_4 =>
    if q_4 = 0 then
      some ((-2 : Int32), G)
    else
      (x5_bestLoad_L29 x1 x2 mFu ((1 : Int32)) ((-1 : Int32)) ((1 : Int32)) G).bind fun q_20 =>
      some (q_20.1, q_20.2)
theorem hd5_bestLoad : yX5_bestLoad.cls = RX5 ∧ yX5_bestLoad.cls ≠ "java/lang/invoke/MethodHandle" ∧ yX5_bestLoad.cls ≠ "java/lang/invoke/VarHandle" ∧ (parseMethodDescriptor yX5_bestLoad.desc).map (fun d => d.parameters.length) = some 2 := by decide +kernel
set_option maxHeartbeats 4000000 in
set_option maxRecDepth 100000 in
theorem k5_bestLoad_29 {p : Program} {l : Launch} {e : Env} {R : Room} {s : State} {m : MethodId} {args : Array Value} {below : List Frame} {meth : Method} {cd : Code} {Q : State → Prop} {E : mE} (X : mX p s m args cd cX5_bestLoad 8 RX5 E) (hR : 6 ≤ R.frames ∧ 138 ≤ R.locals) (hJ : mJ E) (hy0 : mAl E 240) (y1 : Int32) (y2 : Int32) : ∀ (n : Nat) (w3 : Int32) (w4 : Int32) (w5 : Int32) (G : mM) (H : Heap) (locs : List Loc) (ls : Array Slot) (r : Int32 × mM), x5_bestLoad_L29 y1 y2 n w3 w4 w5 G = some r → mZ E s.heap H locs G → lv_has ls 8 [(0, .ref (mad E (240))), (1, .int (y1)), (2, .int (y2)), (3, .int (w3)), (4, .int (w4)), (5, .int (w5))] → (∀ (H : Heap) (locs : List Loc) (ls : Array Slot), mZ E s.heap H locs r.2 → lv_has ls 8 [(0, .ref (mad E (240))), (1, .int (y1)), (2, .int (y2)), (3, .int (r.1))] → W p l e R s m args below meth cd H locs 0 0 Q (F0 m 99 ls [])) → W p l e R s m args below meth cd H locs 0 0 Q (F0 m 29 ls []) := by
  have hx := X.1
  have hb := X.2.1
  have hown := X.2.2.2.1
  have hts := X.2.2.2.2.1
  intro n
  induction n with
  | zero =>
    intro w3 w4 w5 G H locs ls r hT
    rw [x5_bestLoad_L29] at hT
    cases hT
  | succ n ih =>
    intro w3 w4 w5 G H locs ls r hT Z hl k0
    rw [x5_bestLoad_L29] at hT
    refine lv_iload hx hb dX5_bestLoad_29 (lv_at hl 5 rfl) ?_
    refine lv_bipush (v := (20 : Int32)) hx hb dX5_bestLoad_31 (by decide) ?_
    refine lv_icmp_gt (tgt := 99) hx hb dX5_bestLoad_33 (by decide) (fun h_6 => ?_) (fun h_6 => ?_)
    · replace hT := mx_t hT h_6
      cases hT
      exact k0 _ _ _ Z (lv_sub hl [0, 1, 2, 3] rfl)
    · replace hT := mx_f hT h_6
      refine lv_aload_n hx hb dX5_bestLoad_36 rfl (lv_at hl 0 rfl) ?_
      refine mx_get (v := .ref (mad E (20))) (ci := 5) (C := RX5) (T := TX5) (N := 6) X Z hy0.i (hy0.c _) rfl inlX5 2 (by decide) wd_1_19 rfl dX5_bestLoad_37 ?_
      refine lv_aload_n hx hb dX5_bestLoad_40 rfl (lv_at hl 0 rfl) ?_
      refine mx_get (v := .ref (mad E (0))) (ci := 5) (C := RX5) (T := TX5) (N := 6) X Z hy0.i (hy0.c _) rfl inlX5 1 (by decide) wd_1_18 rfl dX5_bestLoad_41 ?_
      obtain ⟨q_7, h_q_7, hT⟩ := mx_bind hT
      refine mx_callV (As := [.ref (mad E (0))]) (rest := []) (st1 := []) (C := RX3) (T := TX3) (N := 11) (ci := 3) X Z hl.1 (c3_copyFrom l E hJ hy0.trial hy0.now _ _ h_q_7) wd_10_4 wd_8_7 wd_8_8 wd_1_16 wd_8_9 hd3_copyFrom ⟨Nat.le_trans (by decide) hR.1, Nat.le_trans (by decide) hR.2⟩ ⟨Nat.zero_le _, Nat.zero_le _⟩ hy0.trial.i (hy0.trial.c _) rfl (Nat.le_of_ble_eq_true rfl) rfl rfl dX5_bestLoad_44 (fun H locs Z => ?_)
      refine lv_aload_n hx hb dX5_bestLoad_47 rfl (lv_at hl 0 rfl) ?_
      refine mx_get (v := .ref (mad E (20))) (ci := 5) (C := RX5) (T := TX5) (N := 6) X Z hy0.i (hy0.c _) rfl inlX5 2 (by decide) wd_1_19 rfl dX5_bestLoad_48 ?_
      refine lv_iload_n hx hb dX5_bestLoad_51 rfl (lv_at hl 1 rfl) ?_
      obtain ⟨q_8, h_q_8, hT⟩ := mx_bind hT
      refine mx_callV (As := [.int (y1)]) (rest := []) (st1 := [va_re (mad E) q_8]) (C := RX3) (T := TX3) (N := 11) (ci := 3) X Z hl.1 (c3_trainAt l E hJ hy0.trial _ _ _ h_q_8) wd_12_20 wd_11_1 wd_11_2 wd_1_16 wd_11_3 hd3_trainAt ⟨Nat.le_trans (by decide) hR.1, Nat.le_trans (by decide) hR.2⟩ ⟨Nat.zero_le _, Nat.zero_le _⟩ hy0.trial.i (hy0.trial.c _) rfl (Nat.le_of_ble_eq_true rfl) rfl rfl dX5_bestLoad_52 (fun H locs Z => ?_)
      have hk_10 := c3_trainAt_k E hy0.trial _ _ _ h_q_8
      rcases q_8 with _ | o_9
      · replace hT := mx_on hT
        refine mx_tops (s2 := [.null]) rfl ?_
        refine lv_astoreN (lv' := [(6, .null), (0, .ref (mad E (240))), (1, .int (y1)), (2, .int (y2)), (3, .int (w3)), (4, .int (w4)), (5, .int (w5))]) hx hb dX5_bestLoad_55 hl (by decide) rfl (fun ls hl => ?_)
        refine lv_aloadN hx hb dX5_bestLoad_57 (lv_at hl 0 rfl) ?_
        refine lv_ifnullN (tgt := 69) hx hb dX5_bestLoad_59 (by decide) ?_
        refine lv_aload_n hx hb dX5_bestLoad_69 rfl (lv_at hl 1 rfl) ?_
        refine mx_get (v := .ref (mad E (20))) (ci := 5) (C := RX5) (T := TX5) (N := 6) X Z hy0.i (hy0.c _) rfl inlX5 2 (by decide) wd_1_19 rfl dX5_bestLoad_70 ?_
        refine lv_iload_n hx hb dX5_bestLoad_73 rfl (lv_at hl 3 rfl) ?_
        obtain ⟨q_11, h_q_11, hT⟩ := mx_bind hT
        refine mx_callV (As := [.int (y2)]) (rest := []) (st1 := [.int (q_11.1)]) (C := RX3) (T := TX3) (N := 11) (ci := 3) X Z hl.1 (c3_pass l E hJ hy0.trial _ _ _ h_q_11) wd_17_22 wd_17_23 wd_18_0 wd_1_16 wd_18_1 hd3_pass ⟨Nat.le_trans (by decide) hR.1, Nat.le_trans (by decide) hR.2⟩ ⟨Nat.zero_le _, Nat.zero_le _⟩ hy0.trial.i (hy0.trial.c _) rfl (Nat.le_of_ble_eq_true rfl) rfl rfl dX5_bestLoad_74 (fun H locs Z => ?_)
        refine lv_istore (lv' := [(7, .int (q_11.1)), (6, .null), (0, .ref (mad E (240))), (1, .int (y1)), (2, .int (y2)), (3, .int (w3)), (4, .int (w4)), (5, .int (w5))]) hx hb dX5_bestLoad_77 hl (by decide) rfl (fun ls hl => ?_)
        refine lv_iload hx hb dX5_bestLoad_79 (lv_at hl 0 rfl) ?_
        refine lv_iload hx hb dX5_bestLoad_81 (lv_at hl 6 rfl) ?_
        refine lv_icmp_le (tgt := 93) hx hb dX5_bestLoad_83 (by decide) (fun h_12 => ?_) (fun h_12 => ?_)
        · replace hT := mx_t hT h_12
          obtain ⟨v_13, e_v_13, hT⟩ := mx_nm hT
          refine lv_iinc (v := v_13) (lv' := [(5, .int (v_13)), (7, .int (q_11.1)), (6, .null), (0, .ref (mad E (240))), (1, .int (y1)), (2, .int (y2)), (3, .int (w3)), (4, .int (w4))]) hx hb dX5_bestLoad_93 hl (k := 7) rfl (by rw [← e_v_13]; rfl) (by decide) rfl (fun ls hl => ?_)
          refine lv_goto (tgt := 29) hx hb dX5_bestLoad_96 (by decide) ?_
          exact ih _ _ _ _ _ _ _ _ hT Z (lv_sub hl [3, 4, 5, 6, 7, 0] rfl) k0
        · replace hT := mx_f hT h_12
          refine lv_iload hx hb dX5_bestLoad_86 (lv_at hl 0 rfl) ?_
          refine lv_istore (lv' := [(4, .int (q_11.1)), (7, .int (q_11.1)), (6, .null), (0, .ref (mad E (240))), (1, .int (y1)), (2, .int (y2)), (3, .int (w3)), (5, .int (w5))]) hx hb dX5_bestLoad_88 hl (by decide) rfl (fun ls hl => ?_)
          refine lv_iload hx hb dX5_bestLoad_90 (lv_at hl 7 rfl) ?_
          refine lv_istore_n (lv' := [(3, .int (w5)), (4, .int (q_11.1)), (7, .int (q_11.1)), (6, .null), (0, .ref (mad E (240))), (1, .int (y1)), (2, .int (y2)), (5, .int (w5))]) hx hb dX5_bestLoad_92 rfl hl (by decide) rfl (fun ls hl => ?_)
          obtain ⟨v_14, e_v_14, hT⟩ := mx_nm hT
          refine lv_iinc (v := v_14) (lv' := [(5, .int (v_14)), (3, .int (w5)), (4, .int (q_11.1)), (7, .int (q_11.1)), (6, .null), (0, .ref (mad E (240))), (1, .int (y1)), (2, .int (y2))]) hx hb dX5_bestLoad_93 hl (k := 7) rfl (by rw [← e_v_14]; rfl) (by decide) rfl (fun ls hl => ?_)
          refine lv_goto (tgt := 29) hx hb dX5_bestLoad_96 (by decide) ?_
          exact ih _ _ _ _ _ _ _ _ hT Z (lv_sub hl [5, 6, 7, 1, 2, 0] rfl) k0
      · replace hT := mx_os hT
        refine mx_tops (s2 := [.ref (mad E o_9)]) rfl ?_
        refine lv_astore (lv' := [(6, .ref (mad E (o_9))), (0, .ref (mad E (240))), (1, .int (y1)), (2, .int (y2)), (3, .int (w3)), (4, .int (w4)), (5, .int (w5))]) hx hb dX5_bestLoad_55 hl (by decide) rfl (fun ls hl => ?_)
        refine lv_aload hx hb dX5_bestLoad_57 (lv_at hl 0 rfl) ?_
        refine lv_ifnull hx hb dX5_bestLoad_59 ?_
        refine lv_aload hx hb dX5_bestLoad_62 (lv_at hl 0 rfl) ?_
        refine lv_iload hx hb dX5_bestLoad_64 (lv_at hl 6 rfl) ?_
        obtain ⟨G_15, e_G_15, hT⟩ := mx_nm hT
        refine mx_put (ci := 4) (C := RX4) (T := TX4) (N := 10) X Z ((hk_10 o_9 rfl)).i (((hk_10 o_9 rfl)).c _) rfl inlX4 tyX4 tyX4_ok nmX4 1 (by decide) wd_12_12 rfl rfl rfl (by show 1 < 10; decide) ((((hk_10 o_9 rfl)).c _).trans (congrArg (fun z => Sum.inr (4, z)) (sp_Tr_1 _ _ _))) dX5_bestLoad_66 (fun H locs Z => ?_)
        rw [e_G_15] at Z
        refine lv_aload_n hx hb dX5_bestLoad_69 rfl (lv_at hl 1 rfl) ?_
        refine mx_get (v := .ref (mad E (20))) (ci := 5) (C := RX5) (T := TX5) (N := 6) X Z hy0.i (hy0.c _) rfl inlX5 2 (by decide) wd_1_19 rfl dX5_bestLoad_70 ?_
        refine lv_iload_n hx hb dX5_bestLoad_73 rfl (lv_at hl 3 rfl) ?_
        obtain ⟨q_16, h_q_16, hT⟩ := mx_bind hT
        refine mx_callV (As := [.int (y2)]) (rest := []) (st1 := [.int (q_16.1)]) (C := RX3) (T := TX3) (N := 11) (ci := 3) X Z hl.1 (c3_pass l E hJ hy0.trial _ _ _ h_q_16) wd_17_22 wd_17_23 wd_18_0 wd_1_16 wd_18_1 hd3_pass ⟨Nat.le_trans (by decide) hR.1, Nat.le_trans (by decide) hR.2⟩ ⟨Nat.zero_le _, Nat.zero_le _⟩ hy0.trial.i (hy0.trial.c _) rfl (Nat.le_of_ble_eq_true rfl) rfl rfl dX5_bestLoad_74 (fun H locs Z => ?_)
        refine lv_istore (lv' := [(7, .int (q_16.1)), (6, .ref (mad E (o_9))), (0, .ref (mad E (240))), (1, .int (y1)), (2, .int (y2)), (3, .int (w3)), (4, .int (w4)), (5, .int (w5))]) hx hb dX5_bestLoad_77 hl (by decide) rfl (fun ls hl => ?_)
        refine lv_iload hx hb dX5_bestLoad_79 (lv_at hl 0 rfl) ?_
        refine lv_iload hx hb dX5_bestLoad_81 (lv_at hl 6 rfl) ?_
        refine lv_icmp_le (tgt := 93) hx hb dX5_bestLoad_83 (by decide) (fun h_17 => ?_) (fun h_17 => ?_)
        · replace hT := mx_t hT h_17
          obtain ⟨v_18, e_v_18, hT⟩ := mx_nm hT
          refine lv_iinc (v := v_18) (lv' := [(5, .int (v_18)), (7, .int (q_16.1)), (6, .ref (mad E (o_9))), (0, .ref (mad E (240))), (1, .int (y1)), (2, .int (y2)), (3, .int (w3)), (4, .int (w4))]) hx hb dX5_bestLoad_93 hl (k := 7) rfl (by rw [← e_v_18]; rfl) (by decide) rfl (fun ls hl => ?_)
          refine lv_goto (tgt := 29) hx hb dX5_bestLoad_96 (by decide) ?_
          exact ih _ _ _ _ _ _ _ _ hT Z (lv_sub hl [3, 4, 5, 6, 7, 0] rfl) k0
        · replace hT := mx_f hT h_17
          refine lv_iload hx hb dX5_bestLoad_86 (lv_at hl 0 rfl) ?_
          refine lv_istore (lv' := [(4, .int (q_16.1)), (7, .int (q_16.1)), (6, .ref (mad E (o_9))), (0, .ref (mad E (240))), (1, .int (y1)), (2, .int (y2)), (3, .int (w3)), (5, .int (w5))]) hx hb dX5_bestLoad_88 hl (by decide) rfl (fun ls hl => ?_)
          refine lv_iload hx hb dX5_bestLoad_90 (lv_at hl 7 rfl) ?_
          refine lv_istore_n (lv' := [(3, .int (w5)), (4, .int (q_16.1)), (7, .int (q_16.1)), (6, .ref (mad E (o_9))), (0, .ref (mad E (240))), (1, .int (y1)), (2, .int (y2)), (5, .int (w5))]) hx hb dX5_bestLoad_92 rfl hl (by decide) rfl (fun ls hl => ?_)
          obtain ⟨v_19, e_v_19, hT⟩ := mx_nm hT
          refine lv_iinc (v := v_19) (lv' := [(5, .int (v_19)), (3, .int (w5)), (4, .int (q_16.1)), (7, .int (q_16.1)), (6, .ref (mad E (o_9))), (0, .ref (mad E (240))), (1, .int (y1)), (2, .int (y2))]) hx hb dX5_bestLoad_93 hl (k := 7) rfl (by rw [← e_v_19]; rfl) (by decide) rfl (fun ls hl => ?_)
          refine lv_goto (tgt := 29) hx hb dX5_bestLoad_96 (by decide) ?_
          exact ih _ _ _ _ _ _ _ _ hT Z (lv_sub hl [5, 6, 7, 1, 2, 0] rfl) k0
set_option maxHeartbeats 4000000 in
set_option maxRecDepth 100000 in
theorem c5_bestLoad (l : Launch) (E : mE) (hJ : mJ E) (hc : mAl E 240) (x1 : Int32) (x2 : Int32) (G : mM) (q : (Int32 × mM)) (hT : x5_bestLoad x1 x2 G = some q) : mMet l E yX5_bestLoad cX5_bestLoad 8 (some .int) 6 138 [.ref (mad E (240)), .int (x1), .int (x2)] G (some (.int q.1)) q.2 := by
  refine Met.ofW (cc := cX5_bestLoad) (maxL := 8) (ret := (some .int)) (by decide) rfl ?_
  intro p e s m args below meth cd s₁ B hml hv
  obtain ⟨rfl, hP, hK, hS⟩ := hv
  have X := mx_entry (own := RX5) B hml hK hJ hS rfl
  have hx := X.1
  have hb := X.2.1
  have hown := X.2.2.2.1
  have hts := X.2.2.2.2.1
  have hr := B.returns
  have hlocks := B.notSynchronized
  have hR : 6 ≤ (headSpec (mWs yX5_bestLoad cX5_bestLoad 8 (some .int)) ({ frames := 6, cells := 0, slots := 0, locals := 138 })).room.frames ∧ 138 ≤ (headSpec (mWs yX5_bestLoad cX5_bestLoad 8 (some .int)) ({ frames := 6, cells := 0, slots := 0, locals := 138 })).room.locals := ⟨Nat.le_refl _, Nat.le_refl _⟩
  have Z : mZ E s.heap s.heap [] G := ⟨hP, va_S.rf⟩
  have hl := lv_entry ([.ref (mad E (240)), .int (x1), .int (x2)]) (n := 8) (Nat.le_of_ble_eq_true rfl)
  rw [lg_entry_eq]
  generalize (lg_sl ([.ref (mad E (240)), .int (x1), .int (x2)]) ++ List.replicate (8 - (lg_sl ([.ref (mad E (240)), .int (x1), .int (x2)])).length) Slot.unset).toArray = ls at hl ⊢
  have hl : lv_has ls 8 [(0, .ref (mad E (240))), (1, .int (x1)), (2, .int (x2))] := hl
  unfold x5_bestLoad at hT
  refine lv_aload_n hx hb dX5_bestLoad_0 rfl (lv_at hl 0 rfl) ?_
  refine mx_get (v := .ref (mad E (0))) (ci := 5) (C := RX5) (T := TX5) (N := 6) X Z hc.i (hc.c _) rfl inlX5 1 (by decide) wd_1_18 rfl dX5_bestLoad_1 ?_
  refine lv_iload_n hx hb dX5_bestLoad_4 rfl (lv_at hl 1 rfl) ?_
  obtain ⟨q_1, h_q_1, hT⟩ := mx_bind hT
  refine mx_callV (As := [.int (x1)]) (rest := []) (st1 := [va_re (mad E) q_1]) (C := RX3) (T := TX3) (N := 11) (ci := 3) X Z hl.1 (c3_trainAt l E hJ hc.now _ _ _ h_q_1) wd_12_20 wd_11_1 wd_11_2 wd_1_16 wd_11_3 hd3_trainAt ⟨Nat.le_trans (by decide) hR.1, Nat.le_trans (by decide) hR.2⟩ ⟨Nat.zero_le _, Nat.zero_le _⟩ hc.now.i (hc.now.c _) rfl (Nat.le_of_ble_eq_true rfl) rfl rfl dX5_bestLoad_5 (fun H locs Z => ?_)
  have hk_3 := c3_trainAt_k E hc.now _ _ _ h_q_1
  rcases q_1 with _ | o_2
  · replace hT := mx_on hT
    refine mx_tops (s2 := [.null]) rfl ?_
    refine lv_ifnullN (tgt := 18) hx hb dX5_bestLoad_8 (by decide) ?_
    refine lv_bipush (v := (-2 : Int32)) hx hb dX5_bestLoad_18 (by decide) ?_
    cases hT
    exact W.iret hx hb hr (fun t ht hW => mx_end Z t ht _) Z.2.2.2 dX5_bestLoad_20
  · replace hT := mx_os hT
    refine mx_tops (s2 := [.ref (mad E o_2)]) rfl ?_
    refine lv_ifnull hx hb dX5_bestLoad_8 ?_
    refine lv_iload_n hx hb dX5_bestLoad_11 rfl (lv_at hl 2 rfl) ?_
    obtain ⟨q_4, h_q_4, hT⟩ := mx_bind hT
    refine mx_callS (As := [.int (x2)]) (rest := []) (st1 := [.int (q_4)]) X Z hl.1 (c5_isRun l E hJ _ _ _ h_q_4) wd_17_19 wd_17_20 wd_1_2 wd_17_21 hd5_isRun ⟨Nat.le_trans (by decide) hR.1, Nat.le_trans (by decide) hR.2⟩ ⟨Nat.zero_le _, Nat.zero_le _⟩ (Nat.le_of_ble_eq_true rfl) rfl rfl dX5_bestLoad_12 (fun H locs Z => ?_)
    refine lv_if_ne (tgt := 21) hx hb dX5_bestLoad_15 (by decide) (fun h_5 => ?_) (fun h_5 => ?_)
    · replace hT := mx_f hT h_5
      refine lv_iconst (v := (1 : Int32)) hx hb dX5_bestLoad_21 (by decide) ?_
      refine lv_istore_n (lv' := [(3, .int ((1 : Int32))), (0, .ref (mad E (240))), (1, .int (x1)), (2, .int (x2))]) hx hb dX5_bestLoad_22 rfl hl (by decide) rfl (fun ls hl => ?_)
      refine lv_iconst (v := (-1 : Int32)) hx hb dX5_bestLoad_23 (by decide) ?_
      refine lv_istore (lv' := [(4, .int ((-1 : Int32))), (3, .int ((1 : Int32))), (0, .ref (mad E (240))), (1, .int (x1)), (2, .int (x2))]) hx hb dX5_bestLoad_24 hl (by decide) rfl (fun ls hl => ?_)
      refine lv_iconst (v := (1 : Int32)) hx hb dX5_bestLoad_26 (by decide) ?_
      refine lv_istore (lv' := [(5, .int ((1 : Int32))), (4, .int ((-1 : Int32))), (3, .int ((1 : Int32))), (0, .ref (mad E (240))), (1, .int (x1)), (2, .int (x2))]) hx hb dX5_bestLoad_27 hl (by decide) rfl (fun ls hl => ?_)
      obtain ⟨q_20, h_q_20, hT⟩ := mx_bind hT
      refine k5_bestLoad_29 X hR hJ hc _ _ _ _ _ _ _ _ _ _ _ h_q_20 Z (lv_sub (l' := [(0, .ref (mad E (240))), (1, .int (x1)), (2, .int (x2)), (3, .int ((1 : Int32))), (4, .int ((-1 : Int32))), (5, .int ((1 : Int32)))]) hl [3, 4, 5, 2, 1, 0] rfl) (fun H locs ls Z hl => ?_)
      · refine lv_iload_n hx hb dX5_bestLoad_99 rfl (lv_at hl 3 rfl) ?_
        cases hT
        exact W.iret hx hb hr (fun t ht hW => mx_end Z t ht _) Z.2.2.2 dX5_bestLoad_100
    · replace hT := mx_t hT h_5
      refine lv_bipush (v := (-2 : Int32)) hx hb dX5_bestLoad_18 (by decide) ?_
      cases hT
      exact W.iret hx hb hr (fun t ht hW => mx_end Z t ht _) Z.2.2.2 dX5_bestLoad_20
/-! PeatRailway$State.sumOfSinkings -/
def x3_sumOfSinkings_L4 (y0 : Nat) : Nat → Int32 → Int32 → mM → Option (Int32)
  | 0, _, _, _ => none
  | n + 1, w1, w2, G =>
    if ((12 : Int32)) ≤ w2 then
      some (w1)
    else
      (x3_segmentAt y0 w2 G).bind fun q_2 =>
      mOpt q_2 (
        mNm (w2 + (1 : Int32)) fun v_5 =>
        x3_sumOfSinkings_L4 y0 n w1 v_5 G) fun o_3 =>
        mNm (w1 + (G o_3 2)) fun v_6 =>
        mNm (w2 + (1 : Int32)) fun v_7 =>
        x3_sumOfSinkings_L4 y0 n v_6 v_7 G
def x3_sumOfSinkings (c : Nat) (G : mM) : Option Int32 :=
  (x3_sumOfSinkings_L4 c mFu ((0 : Int32)) ((0 : Int32)) G).bind fun q_8 =>
  some (q_8)
theorem hd3_sumOfSinkings : yX3_sumOfSinkings.cls = RX3 ∧ yX3_sumOfSinkings.cls ≠ "java/lang/invoke/MethodHandle" ∧ yX3_sumOfSinkings.cls ≠ "java/lang/invoke/VarHandle" ∧ (parseMethodDescriptor yX3_sumOfSinkings.desc).map (fun d => d.parameters.length) = some 0 := by decide +kernel
set_option maxHeartbeats 4000000 in
set_option maxRecDepth 100000 in
theorem k3_sumOfSinkings_4 {p : Program} {l : Launch} {e : Env} {R : Room} {s : State} {m : MethodId} {args : Array Value} {below : List Frame} {meth : Method} {cd : Code} {Q : State → Prop} {E : mE} (X : mX p s m args cd cX3_sumOfSinkings 4 RX3 E) (hR : 1 ≤ R.frames ∧ 21 ≤ R.locals) (hJ : mJ E) {y0 : Nat} (hy0 : mSt E y0) : ∀ (n : Nat) (w1 : Int32) (w2 : Int32) (G : mM) (H : Heap) (locs : List Loc) (ls : Array Slot) (r : Int32), x3_sumOfSinkings_L4 y0 n w1 w2 G = some r → mZ E s.heap H locs G → lv_has ls 4 [(0, .ref (mad E (y0))), (1, .int (w1)), (2, .int (w2))] → (∀ (H : Heap) (locs : List Loc) (ls : Array Slot), mZ E s.heap H locs G → lv_has ls 4 [(0, .ref (mad E (y0))), (1, .int (r))] → W p l e R s m args below meth cd H locs 0 0 Q (F0 m 33 ls [])) → W p l e R s m args below meth cd H locs 0 0 Q (F0 m 4 ls []) := by
  have hx := X.1
  have hb := X.2.1
  have hown := X.2.2.2.1
  have hts := X.2.2.2.2.1
  intro n
  induction n with
  | zero =>
    intro w1 w2 G H locs ls r hT
    rw [x3_sumOfSinkings_L4] at hT
    cases hT
  | succ n ih =>
    intro w1 w2 G H locs ls r hT Z hl k0
    rw [x3_sumOfSinkings_L4] at hT
    refine lv_iload_n hx hb dX3_sumOfSinkings_4 rfl (lv_at hl 2 rfl) ?_
    refine lv_bipush (v := (12 : Int32)) hx hb dX3_sumOfSinkings_5 (by decide) ?_
    refine lv_icmp_ge (tgt := 33) hx hb dX3_sumOfSinkings_7 (by decide) (fun h_1 => ?_) (fun h_1 => ?_)
    · replace hT := mx_t hT h_1
      cases hT
      exact k0 _ _ _ Z (lv_sub hl [0, 1] rfl)
    · replace hT := mx_f hT h_1
      refine lv_aload_n hx hb dX3_sumOfSinkings_10 rfl (lv_at hl 0 rfl) ?_
      refine lv_iload_n hx hb dX3_sumOfSinkings_11 rfl (lv_at hl 2 rfl) ?_
      obtain ⟨q_2, h_q_2, hT⟩ := mx_bind hT
      refine mx_callV (As := [.int (w2)]) (rest := []) (st1 := [va_re (mad E) q_2]) (C := RX3) (T := TX3) (N := 11) (ci := 3) X Z hl.1 (c3_segmentAt l E hJ hy0 _ _ _ h_q_2) wd_6_4 wd_6_5 wd_6_6 wd_1_16 wd_6_7 hd3_segmentAt ⟨Nat.le_trans (by decide) hR.1, Nat.le_trans (by decide) hR.2⟩ ⟨Nat.zero_le _, Nat.zero_le _⟩ hy0.i (hy0.c _) rfl (Nat.le_of_ble_eq_true rfl) rfl rfl dX3_sumOfSinkings_12 (fun H locs Z => ?_)
      have hk_4 := c3_segmentAt_k E hy0 _ _ _ h_q_2
      rcases q_2 with _ | o_3
      · replace hT := mx_on hT
        refine mx_tops (s2 := [.null]) rfl ?_
        refine lv_astore_nN (lv' := [(3, .null), (0, .ref (mad E (y0))), (1, .int (w1)), (2, .int (w2))]) hx hb dX3_sumOfSinkings_15 rfl hl (by decide) rfl (fun ls hl => ?_)
        refine lv_aload_nN hx hb dX3_sumOfSinkings_16 rfl (lv_at hl 0 rfl) ?_
        refine lv_ifnullN (tgt := 27) hx hb dX3_sumOfSinkings_17 (by decide) ?_
        obtain ⟨v_5, e_v_5, hT⟩ := mx_nm hT
        refine lv_iinc (v := v_5) (lv' := [(2, .int (v_5)), (3, .null), (0, .ref (mad E (y0))), (1, .int (w1))]) hx hb dX3_sumOfSinkings_27 hl (k := 3) rfl (by rw [← e_v_5]; rfl) (by decide) rfl (fun ls hl => ?_)
        refine lv_goto (tgt := 4) hx hb dX3_sumOfSinkings_30 (by decide) ?_
        exact ih _ _ _ _ _ _ _ hT Z (lv_sub hl [2, 3, 0] rfl) k0
      · replace hT := mx_os hT
        refine mx_tops (s2 := [.ref (mad E o_3)]) rfl ?_
        refine lv_astore_n (lv' := [(3, .ref (mad E (o_3))), (0, .ref (mad E (y0))), (1, .int (w1)), (2, .int (w2))]) hx hb dX3_sumOfSinkings_15 rfl hl (by decide) rfl (fun ls hl => ?_)
        refine lv_aload_n hx hb dX3_sumOfSinkings_16 rfl (lv_at hl 0 rfl) ?_
        refine lv_ifnull hx hb dX3_sumOfSinkings_17 ?_
        refine lv_iload_n hx hb dX3_sumOfSinkings_20 rfl (lv_at hl 2 rfl) ?_
        refine lv_aload_n hx hb dX3_sumOfSinkings_21 rfl (lv_at hl 0 rfl) ?_
        refine mx_get (v := .int (G o_3 2)) (ci := 2) (C := RX2) (T := TX2) (N := 6) X Z ((hk_4 o_3 rfl)).i (((hk_4 o_3 rfl)).c _) rfl inlX2 2 (by decide) wd_13_6 rfl dX3_sumOfSinkings_22 ?_
        refine lv_iadd hx hb dX3_sumOfSinkings_25 ?_
        obtain ⟨v_6, e_v_6, hT⟩ := mx_nm hT
        refine mx_tops (congrArg (fun z => (.int (z) :: [] : List Value)) e_v_6) ?_
        refine lv_istore_n (lv' := [(1, .int (v_6)), (3, .ref (mad E (o_3))), (0, .ref (mad E (y0))), (2, .int (w2))]) hx hb dX3_sumOfSinkings_26 rfl hl (by decide) rfl (fun ls hl => ?_)
        obtain ⟨v_7, e_v_7, hT⟩ := mx_nm hT
        refine lv_iinc (v := v_7) (lv' := [(2, .int (v_7)), (1, .int (v_6)), (3, .ref (mad E (o_3))), (0, .ref (mad E (y0)))]) hx hb dX3_sumOfSinkings_27 hl (k := 3) rfl (by rw [← e_v_7]; rfl) (by decide) rfl (fun ls hl => ?_)
        refine lv_goto (tgt := 4) hx hb dX3_sumOfSinkings_30 (by decide) ?_
        exact ih _ _ _ _ _ _ _ hT Z (lv_sub hl [3, 1, 0] rfl) k0
set_option maxHeartbeats 4000000 in
set_option maxRecDepth 100000 in
theorem c3_sumOfSinkings (l : Launch) (E : mE) (hJ : mJ E) {c : Nat} (hc : mSt E c) (G : mM) (q : Int32) (hT : x3_sumOfSinkings c G = some q) : mMet l E yX3_sumOfSinkings cX3_sumOfSinkings 4 (some .int) 1 21 [.ref (mad E (c))] G (some (.int q)) G := by
  refine Met.ofW (cc := cX3_sumOfSinkings) (maxL := 4) (ret := (some .int)) (by decide) rfl ?_
  intro p e s m args below meth cd s₁ B hml hv
  obtain ⟨rfl, hP, hK, hS⟩ := hv
  have X := mx_entry (own := RX3) B hml hK hJ hS rfl
  have hx := X.1
  have hb := X.2.1
  have hown := X.2.2.2.1
  have hts := X.2.2.2.2.1
  have hr := B.returns
  have hlocks := B.notSynchronized
  have hR : 1 ≤ (headSpec (mWs yX3_sumOfSinkings cX3_sumOfSinkings 4 (some .int)) ({ frames := 1, cells := 0, slots := 0, locals := 21 })).room.frames ∧ 21 ≤ (headSpec (mWs yX3_sumOfSinkings cX3_sumOfSinkings 4 (some .int)) ({ frames := 1, cells := 0, slots := 0, locals := 21 })).room.locals := ⟨Nat.le_refl _, Nat.le_refl _⟩
  have Z : mZ E s.heap s.heap [] G := ⟨hP, va_S.rf⟩
  have hl := lv_entry ([.ref (mad E (c))]) (n := 4) (Nat.le_of_ble_eq_true rfl)
  rw [lg_entry_eq]
  generalize (lg_sl ([.ref (mad E (c))]) ++ List.replicate (4 - (lg_sl ([.ref (mad E (c))])).length) Slot.unset).toArray = ls at hl ⊢
  have hl : lv_has ls 4 [(0, .ref (mad E (c)))] := hl
  unfold x3_sumOfSinkings at hT
  refine lv_iconst (v := (0 : Int32)) hx hb dX3_sumOfSinkings_0 (by decide) ?_
  refine lv_istore_n (lv' := [(1, .int ((0 : Int32))), (0, .ref (mad E (c)))]) hx hb dX3_sumOfSinkings_1 rfl hl (by decide) rfl (fun ls hl => ?_)
  refine lv_iconst (v := (0 : Int32)) hx hb dX3_sumOfSinkings_2 (by decide) ?_
  refine lv_istore_n (lv' := [(2, .int ((0 : Int32))), (1, .int ((0 : Int32))), (0, .ref (mad E (c)))]) hx hb dX3_sumOfSinkings_3 rfl hl (by decide) rfl (fun ls hl => ?_)
  obtain ⟨q_8, h_q_8, hT⟩ := mx_bind hT
  refine k3_sumOfSinkings_4 X hR hJ hc  _ _ _ _ _ _ _ _ h_q_8 Z (lv_sub (l' := [(0, .ref (mad E (c))), (1, .int ((0 : Int32))), (2, .int ((0 : Int32)))]) hl [2, 1, 0] rfl) (fun H locs ls Z hl => ?_)
  · refine lv_iload_n hx hb dX3_sumOfSinkings_33 rfl (lv_at hl 1 rfl) ?_
    cases hT
    exact W.iret hx hb hr (fun t ht hW => mx_end Z t ht _) Z.2.2.2 dX3_sumOfSinkings_34
/-! PeatRailway.meanSinking -/
def x5_meanSinking (G : mM) : Option UInt64 :=
  if ((1 : Int32)) ≤ (G 0 3) then
    (x3_sumOfSinkings 0 G).bind fun q_2 =>
    mCk (mNN (FP.ddiv (FP.i2d q_2) (FP.i2d (G 0 3)))) <|
    some (FP.ddiv (FP.i2d q_2) (FP.i2d (G 0 3)))
  else
    some (FP.dconst0)
theorem hd5_meanSinking : yX5_meanSinking.cls = RX5 ∧ yX5_meanSinking.cls ≠ "java/lang/invoke/MethodHandle" ∧ yX5_meanSinking.cls ≠ "java/lang/invoke/VarHandle" ∧ (parseMethodDescriptor yX5_meanSinking.desc).map (fun d => d.parameters.length) = some 0 := by decide +kernel
set_option maxHeartbeats 4000000 in
set_option maxRecDepth 100000 in
theorem c5_meanSinking (l : Launch) (E : mE) (hJ : mJ E) (hc : mAl E 240) (G : mM) (q : UInt64) (hT : x5_meanSinking G = some q) : mMet l E yX5_meanSinking cX5_meanSinking 1 (some .double) 2 44 [.ref (mad E (240))] G (some (.double q)) G := by
  refine Met.ofW (cc := cX5_meanSinking) (maxL := 1) (ret := (some .double)) (by decide) rfl ?_
  intro p e s m args below meth cd s₁ B hml hv
  obtain ⟨rfl, hP, hK, hS⟩ := hv
  have X := mx_entry (own := RX5) B hml hK hJ hS rfl
  have hx := X.1
  have hb := X.2.1
  have hown := X.2.2.2.1
  have hts := X.2.2.2.2.1
  have hr := B.returns
  have hlocks := B.notSynchronized
  have hR : 2 ≤ (headSpec (mWs yX5_meanSinking cX5_meanSinking 1 (some .double)) ({ frames := 2, cells := 0, slots := 0, locals := 44 })).room.frames ∧ 44 ≤ (headSpec (mWs yX5_meanSinking cX5_meanSinking 1 (some .double)) ({ frames := 2, cells := 0, slots := 0, locals := 44 })).room.locals := ⟨Nat.le_refl _, Nat.le_refl _⟩
  have Z : mZ E s.heap s.heap [] G := ⟨hP, va_S.rf⟩
  have hl := lv_entry ([.ref (mad E (240))]) (n := 1) (Nat.le_of_ble_eq_true rfl)
  rw [lg_entry_eq]
  generalize (lg_sl ([.ref (mad E (240))]) ++ List.replicate (1 - (lg_sl ([.ref (mad E (240))])).length) Slot.unset).toArray = ls at hl ⊢
  have hl : lv_has ls 1 [(0, .ref (mad E (240)))] := hl
  unfold x5_meanSinking at hT
  refine lv_aload_n hx hb dX5_meanSinking_0 rfl (lv_at hl 0 rfl) ?_
  refine mx_get (v := .ref (mad E (0))) (ci := 5) (C := RX5) (T := TX5) (N := 6) X Z hc.i (hc.c _) rfl inlX5 1 (by decide) wd_1_18 rfl dX5_meanSinking_1 ?_
  refine mx_get (v := .int (G 0 3)) (ci := 3) (C := RX3) (T := TX3) (N := 11) X Z hc.now.i (hc.now.c _) rfl inlX3 3 (by decide) wd_15_14 rfl dX5_meanSinking_4 ?_
  refine lv_iconst (v := (1 : Int32)) hx hb dX5_meanSinking_7 (by decide) ?_
  refine lv_icmp_ge (tgt := 13) hx hb dX5_meanSinking_8 (by decide) (fun h_1 => ?_) (fun h_1 => ?_)
  · replace hT := mx_t hT h_1
    refine lv_aload_n hx hb dX5_meanSinking_13 rfl (lv_at hl 0 rfl) ?_
    refine mx_get (v := .ref (mad E (0))) (ci := 5) (C := RX5) (T := TX5) (N := 6) X Z hc.i (hc.c _) rfl inlX5 1 (by decide) wd_1_18 rfl dX5_meanSinking_14 ?_
    obtain ⟨q_2, h_q_2, hT⟩ := mx_bind hT
    refine mx_callV (As := []) (rest := []) (st1 := [.int (q_2)]) (C := RX3) (T := TX3) (N := 11) (ci := 3) X Z hl.1 (c3_sumOfSinkings l E hJ hc.now _ _ h_q_2) wd_16_16 wd_16_17 wd_16_18 wd_1_16 wd_16_19 hd3_sumOfSinkings ⟨Nat.le_trans (by decide) hR.1, Nat.le_trans (by decide) hR.2⟩ ⟨Nat.zero_le _, Nat.zero_le _⟩ hc.now.i (hc.now.c _) rfl (Nat.le_of_ble_eq_true rfl) rfl rfl dX5_meanSinking_17 (fun H locs Z => ?_)
    refine lv_i2d hx hb dX5_meanSinking_20 ?_
    refine lv_aload_n hx hb dX5_meanSinking_21 rfl (lv_at hl 0 rfl) ?_
    refine mx_get (v := .ref (mad E (0))) (ci := 5) (C := RX5) (T := TX5) (N := 6) X Z hc.i (hc.c _) rfl inlX5 1 (by decide) wd_1_18 rfl dX5_meanSinking_22 ?_
    refine mx_get (v := .int (G 0 3)) (ci := 3) (C := RX3) (T := TX3) (N := 11) X Z hc.now.i (hc.now.c _) rfl inlX3 3 (by decide) wd_15_14 rfl dX5_meanSinking_25 ?_
    refine lv_i2d hx hb dX5_meanSinking_28 ?_
    obtain ⟨h_3, hT⟩ := mx_chk hT
    refine lv_ddiv hx hb dX5_meanSinking_29 h_3 ?_
    cases hT
    exact W.dret hx hb hr (fun t ht hW => mx_end Z t ht _) Z.2.2.2 dX5_meanSinking_30
  · replace hT := mx_f hT h_1
    refine lv_dconst0 hx hb dX5_meanSinking_11 ?_
    cases hT
    exact W.dret hx hb hr (fun t ht hW => mx_end Z t ht _) Z.2.2.2 dX5_meanSinking_12
