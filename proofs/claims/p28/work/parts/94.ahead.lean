/-! PeatRailwayLaw.ahead, from 18 -/
def xL_ahead_T_L427 (y8 : Int32) (y9 : Int32) (y10 : Int32) (y11 : Int32) (y12 : Int32) (y13 : Int32) : Nat → Int32 → mM → Option (mM)
  | 0, _, _ => none
  | n + 1, w14, G =>
    if y9 ≤ w14 then
      some (G)
    else
      (xL_tick 252 10 253 24 254 40 G).bind fun q_19 =>
      mNm (w14 + (1 : Int32)) fun v_20 =>
      xL_ahead_T_L427 y8 y9 y10 y11 y12 y13 n v_20 q_19
def xL_ahead_T_L361 (y8 : Int32) (y9 : Int32) (y10 : Int32) : Nat → Int32 → Int32 → Int32 → mM → Option (Int32 × mM)
  | 0, _, _, _, _ => none
  | n + 1, w11, w12, w13, G =>
    if y8 = ((2 : Int32)) then
      if ((3 : Int32)) ≤ w13 then
        some (w11, G)
      else
        (xL_copy 246 10 252 10 G).bind fun q_30 =>
        (xL_copy 247 24 253 24 q_30).bind fun q_31 =>
        (xL_copy 248 40 254 40 q_31).bind fun q_32 =>
        mNm (up2 q_32 252 4 w13) fun G_34 =>
        (xL_ahead_T_L427 y8 y9 y10 w11 w12 w13 mFu ((0 : Int32)) G_34).bind fun q_35 =>
        if w11 < 0 then
          mNm (q_35 252 7) fun v_37 =>
          mNm (w13 + (1 : Int32)) fun v_38 =>
          xL_ahead_T_L361 y8 y9 y10 n w13 v_37 v_38 q_35
        else
          if w12 < (q_35 252 7) then
            mNm (q_35 252 7) fun v_40 =>
            mNm (w13 + (1 : Int32)) fun v_41 =>
            xL_ahead_T_L361 y8 y9 y10 n w13 v_40 v_41 q_35
          else
            mNm (w13 + (1 : Int32)) fun v_42 =>
            xL_ahead_T_L361 y8 y9 y10 n w11 w12 v_42 q_35
    else
      if ((21 : Int32)) ≤ w13 then
        some (w11, G)
      else
        (xL_copy 246 10 252 10 G).bind fun q_12 =>
        (xL_copy 247 24 253 24 q_12).bind fun q_13 =>
        (xL_copy 248 40 254 40 q_13).bind fun q_14 =>
        mCk (mIn ((((10 : Int32)) * y10) + ((1 : Int32))) 40) <|
        mNm (up2 q_14 254 (((((10 : Int32)) * y10) + ((1 : Int32))).toNatClampNeg) w13) fun G_17 =>
        (xL_ahead_T_L427 y8 y9 y10 w11 w12 w13 mFu ((0 : Int32)) G_17).bind fun q_21 =>
        if w11 < 0 then
          mNm (q_21 252 7) fun v_23 =>
          mNm (w13 + (1 : Int32)) fun v_24 =>
          xL_ahead_T_L361 y8 y9 y10 n w13 v_23 v_24 q_21
        else
          if w12 < (q_21 252 7) then
            mNm (q_21 252 7) fun v_26 =>
            mNm (w13 + (1 : Int32)) fun v_27 =>
            xL_ahead_T_L361 y8 y9 y10 n w13 v_26 v_27 q_21
          else
            mNm (w13 + (1 : Int32)) fun v_28 =>
            xL_ahead_T_L361 y8 y9 y10 n w11 w12 v_28 q_21
def xL_ahead_T_L239 (y10 : Int32) : Nat → Int32 → mM → Option (Int32 × mM)
  | 0, _, _ => none
  | n + 1, w11, G =>
    if ((501 : Int32)) ≤ w11 then
      some (w11, G)
    else
      if ((G 246 7) + y10) ≤ (G 252 7) then
        some (w11, G)
      else
        (xL_tick 252 10 253 24 254 40 G).bind fun q_72 =>
        mNm (w11 + (1 : Int32)) fun v_73 =>
        xL_ahead_T_L239 y10 n v_73 q_72
def xL_ahead_T_L67 (y9 : Int32) : Nat → Int32 → Int32 → mM → Option (Int32 × mM)
  | 0, _, _, _ => none
  | n + 1, w10, w11, G =>
    if y9 ≤ w11 then
      some (w10, G)
    else
      (xL_tick 252 10 253 24 254 40 G).bind fun q_83 =>
      (xL_sunk 252 10 253 24 q_83).bind fun q_84 =>
      if q_84 ≤ w10 then
        mNm (w11 + (1 : Int32)) fun v_86 =>
        xL_ahead_T_L67 y9 n w10 v_86 q_83
      else
        (xL_sunk 252 10 253 24 q_83).bind fun q_87 =>
        mNm (w11 + (1 : Int32)) fun v_88 =>
        xL_ahead_T_L67 y9 n q_87 v_88 q_83
def xL_ahead_T (x1 : Int32) (G : mM) : Option (Int32 × mM) :=
  (xL_at x1 ((4 : Int32)) G).bind fun q_1 =>
  (xL_at (x1 >>> ((2 : Int32) &&& 31)) ((90 : Int32)) G).bind fun q_2 =>
  mNm (((1 : Int32)) + q_2) fun v_3 =>
  if q_1 = 0 then
    (xL_copy 246 10 252 10 G).bind fun q_79 =>
    (xL_copy 247 24 253 24 q_79).bind fun q_80 =>
    (xL_copy 248 40 254 40 q_80).bind fun q_81 =>
    (xL_ahead_T_L67 v_3 mFu ((0 : Int32)) ((0 : Int32)) q_81).bind fun q_89 =>
    (x5_ifRun v_3 ((0 : Int32)) q_89.2).bind fun q_90 =>
    if q_90.1 = ((q_90.2 252 7) - (q_90.2 246 7)) then
      (x5_ifRun v_3 ((1 : Int32)) q_90.2).bind fun q_92 =>
      (xL_sunk 252 10 253 24 q_92.2).bind fun q_93 =>
      if q_92.1 = q_93 then
        (x5_ifRun v_3 ((2 : Int32)) q_92.2).bind fun q_95 =>
        (xL_sum ((7 : Int32)) 252 10 254 40 q_95.2).bind fun q_96 =>
        (xL_sum ((7 : Int32)) 246 10 248 40 q_95.2).bind fun q_97 =>
        if q_95.1 = (q_96 - q_97) then
          (x5_ifRun v_3 ((3 : Int32)) q_95.2).bind fun q_99 =>
          if q_99.1 = q_89.1 then
            some ((1 : Int32), q_99.2)
          else
            some ((0 : Int32), q_99.2)
        else
          some ((0 : Int32), q_95.2)
      else
        some ((0 : Int32), q_92.2)
    else
      some ((0 : Int32), q_90.2)
  else
    if q_1 = ((1 : Int32)) then
      (xL_at (x1 >>> ((9 : Int32) &&& 31)) ((120 : Int32)) G).bind fun q_65 =>
      mNm (((1 : Int32)) + q_65) fun v_66 =>
      (xL_copy 246 10 252 10 G).bind fun q_67 =>
      (xL_copy 247 24 253 24 q_67).bind fun q_68 =>
      (xL_copy 248 40 254 40 q_68).bind fun q_69 =>
      (xL_ahead_T_L239 v_66 mFu ((0 : Int32)) q_69).bind fun q_74 =>
      (x5_ticksFor v_66 q_74.2).bind fun q_75 =>
      if q_74.1 ≤ ((500 : Int32)) then
        if q_75.1 = q_74.1 then
          some ((1 : Int32), q_75.2)
        else
          some ((0 : Int32), q_75.2)
      else
        if q_75.1 = ((-1 : Int32)) then
          some ((1 : Int32), q_75.2)
        else
          some ((0 : Int32), q_75.2)
    else
      if q_1 = ((3 : Int32)) then
        if (G 246 1) = 0 then
          some ((1 : Int32), G)
        else
          if q_1 = ((2 : Int32)) then
            (xL_ahead_T_L361 q_1 v_3 ((0 : Int32)) mFu ((-1 : Int32)) ((0 : Int32)) ((0 : Int32)) G).bind fun q_61 =>
            (x5_bestRule v_3 q_61.2).bind fun q_63 =>
            if q_63.1 = q_61.1 then
              some ((1 : Int32), q_63.2)
            else
              some ((0 : Int32), q_63.2)
          else
            (xL_at (x1 >>> ((10 : Int32) &&& 31)) (G 246 1) G).bind fun q_54 =>
            (xL_ahead_T_L361 q_1 v_3 q_54 mFu ((-1 : Int32)) ((0 : Int32)) ((1 : Int32)) G).bind fun q_56 =>
            (x5_bestLoad q_54 v_3 q_56.2).bind fun q_58 =>
            if q_58.1 = q_56.1 then
              some ((1 : Int32), q_58.2)
            else
              some ((0 : Int32), q_58.2)
      else
        if q_1 = ((2 : Int32)) then
          (xL_ahead_T_L361 q_1 v_3 ((0 : Int32)) mFu ((-1 : Int32)) ((0 : Int32)) ((0 : Int32)) G).bind fun q_48 =>
          (x5_bestRule v_3 q_48.2).bind fun q_50 =>
          if q_50.1 = q_48.1 then
            some ((1 : Int32), q_50.2)
          else
            some ((0 : Int32), q_50.2)
        else
          (xL_at (x1 >>> ((10 : Int32) &&& 31)) (G 246 1) G).bind fun q_8 =>
          (xL_ahead_T_L361 q_1 v_3 q_8 mFu ((-1 : Int32)) ((0 : Int32)) ((1 : Int32)) G).bind fun q_43 =>
          (x5_bestLoad q_8 v_3 q_43.2).bind fun q_45 =>
          if q_45.1 = q_43.1 then
            some ((1 : Int32), q_45.2)
          else
            some ((0 : Int32), q_45.2)
theorem hdL_ahead : yL_ahead.cls ≠ "java/lang/invoke/MethodHandle" ∧ yL_ahead.cls ≠ "java/lang/invoke/VarHandle" ∧ (parseMethodDescriptor yL_ahead.desc).map (fun d => d.parameters.length) = some 5 := by decide +kernel
set_option maxHeartbeats 4000000 in
set_option maxRecDepth 100000 in
theorem kL_ahead_427 {p : Program} {l : Launch} {e : Env} {R : Room} {s : State} {m : MethodId} {args : Array Value} {below : List Frame} {meth : Method} {cd : Code} {Q : State → Prop} {E : mE} (X : mX p s m args cd cL_ahead 15 RL E) (hR : 7 ≤ R.frames ∧ 165 ≤ R.locals) (hJ : mJ E) {cN sN : Nat} (hC : cN ≤ R.cells ∧ sN ≤ R.slots) (hy0 : mAl E 240) (hy2 : mAi E 246 1 10) (hy3 : mAi E 247 1 24) (hy4 : mAi E 248 1 40) (hy5 : mAi E 252 1 10) (hy6 : mAi E 253 1 24) (hy7 : mAi E 254 1 40) (y8 : Int32) (y9 : Int32) (y10 : Int32) (y11 : Int32) (y12 : Int32) (y13 : Int32) : ∀ (n : Nat) (w14 : Int32) (G : mM) (H : Heap) (locs : List Loc) (ls : Array Slot) (r : mM), xL_ahead_T_L427 y8 y9 y10 y11 y12 y13 n w14 G = some r → mZ E s.heap H locs G → lv_has ls 15 [(0, .ref (mad E (240))), (2, .ref (mad E (246))), (3, .ref (mad E (247))), (4, .ref (mad E (248))), (5, .ref (mad E (252))), (6, .ref (mad E (253))), (7, .ref (mad E (254))), (8, .int (y8)), (9, .int (y9)), (10, .int (y10)), (11, .int (y11)), (12, .int (y12)), (13, .int (y13)), (14, .int (w14))] → (∀ (H : Heap) (locs : List Loc) (ls : Array Slot), mZ E s.heap H locs r → lv_has ls 15 [(0, .ref (mad E (240))), (2, .ref (mad E (246))), (3, .ref (mad E (247))), (4, .ref (mad E (248))), (5, .ref (mad E (252))), (6, .ref (mad E (253))), (7, .ref (mad E (254))), (8, .int (y8)), (9, .int (y9)), (10, .int (y10)), (11, .int (y11)), (12, .int (y12)), (13, .int (y13))] → W p l e R s m args below meth cd H locs cN sN Q (F0 m 449 ls [])) → W p l e R s m args below meth cd H locs cN sN Q (F0 m 427 ls []) := by
  have hx := X.1
  have hb := X.2.1
  have hown := X.2.2.2.1
  have hts := X.2.2.2.2.1
  intro n
  induction n with
  | zero =>
    intro w14 G H locs ls r hT
    rw [xL_ahead_T_L427] at hT
    cases hT
  | succ n ih =>
    intro w14 G H locs ls r hT Z hl k0
    rw [xL_ahead_T_L427] at hT
    refine lv_iload hx hb dL_ahead_427 (lv_at hl 13 rfl) ?_
    refine lv_iload hx hb dL_ahead_429 (lv_at hl 8 rfl) ?_
    refine lv_icmp_ge (tgt := 449) hx hb dL_ahead_431 (by decide) (fun h_18 => ?_) (fun h_18 => ?_)
    · replace hT := mx_t hT h_18
      cases hT
      exact k0 _ _ _ Z (lv_sub hl [0, 1, 2, 3, 4, 5, 6, 7, 8, 9, 10, 11, 12] rfl)
    · replace hT := mx_f hT h_18
      refine lv_aload hx hb dL_ahead_434 (lv_at hl 4 rfl) ?_
      refine lv_aload hx hb dL_ahead_436 (lv_at hl 5 rfl) ?_
      refine lv_aload hx hb dL_ahead_438 (lv_at hl 6 rfl) ?_
      obtain ⟨q_19, h_q_19, hT⟩ := mx_bind hT
      refine mx_callS (As := [.ref (mad E (252)), .ref (mad E (253)), .ref (mad E (254))]) (rest := []) (st1 := []) X Z hl.1 (mL_tick l E hJ hy5 hy6 hy7 _ _ h_q_19) wd_17_9 wd_17_10 wd_10_7 wd_17_11 hdL_tick ⟨Nat.le_trans (by decide) hR.1, Nat.le_trans (by decide) hR.2⟩ ⟨by omega, by omega⟩ (Nat.le_of_ble_eq_true rfl) rfl rfl dL_ahead_440 (fun H locs Z => ?_)
      obtain ⟨v_20, e_v_20, hT⟩ := mx_nm hT
      refine lv_iinc (v := v_20) (lv' := [(14, .int (v_20)), (0, .ref (mad E (240))), (2, .ref (mad E (246))), (3, .ref (mad E (247))), (4, .ref (mad E (248))), (5, .ref (mad E (252))), (6, .ref (mad E (253))), (7, .ref (mad E (254))), (8, .int (y8)), (9, .int (y9)), (10, .int (y10)), (11, .int (y11)), (12, .int (y12)), (13, .int (y13))]) hx hb dL_ahead_443 hl (k := 13) rfl (by rw [← e_v_20]; rfl) (by decide) rfl (fun ls hl => ?_)
      refine lv_goto (tgt := 427) hx hb dL_ahead_446 (by decide) ?_
      exact ih _ _ _ _ _ _ hT Z (lv_sub hl [1, 2, 3, 4, 5, 6, 7, 8, 9, 10, 11, 12, 13, 0] rfl) k0
set_option maxHeartbeats 4000000 in
set_option maxRecDepth 100000 in
theorem kL_ahead_361 {p : Program} {l : Launch} {e : Env} {R : Room} {s : State} {m : MethodId} {args : Array Value} {below : List Frame} {meth : Method} {cd : Code} {Q : State → Prop} {E : mE} (X : mX p s m args cd cL_ahead 15 RL E) (hR : 7 ≤ R.frames ∧ 165 ≤ R.locals) (hJ : mJ E) {cN sN : Nat} (hC : cN ≤ R.cells ∧ sN ≤ R.slots) (hy0 : mAl E 240) (hy2 : mAi E 246 1 10) (hy3 : mAi E 247 1 24) (hy4 : mAi E 248 1 40) (hy5 : mAi E 252 1 10) (hy6 : mAi E 253 1 24) (hy7 : mAi E 254 1 40) (y8 : Int32) (y9 : Int32) (y10 : Int32) : ∀ (n : Nat) (w11 : Int32) (w12 : Int32) (w13 : Int32) (G : mM) (H : Heap) (locs : List Loc) (ls : Array Slot) (r : Int32 × mM), xL_ahead_T_L361 y8 y9 y10 n w11 w12 w13 G = some r → mZ E s.heap H locs G → lv_has ls 15 [(0, .ref (mad E (240))), (2, .ref (mad E (246))), (3, .ref (mad E (247))), (4, .ref (mad E (248))), (5, .ref (mad E (252))), (6, .ref (mad E (253))), (7, .ref (mad E (254))), (8, .int (y8)), (9, .int (y9)), (10, .int (y10)), (11, .int (w11)), (12, .int (w12)), (13, .int (w13))] → (∀ (H : Heap) (locs : List Loc) (ls : Array Slot), mZ E s.heap H locs r.2 → lv_has ls 15 [(0, .ref (mad E (240))), (2, .ref (mad E (246))), (3, .ref (mad E (247))), (4, .ref (mad E (248))), (5, .ref (mad E (252))), (6, .ref (mad E (253))), (7, .ref (mad E (254))), (8, .int (y8)), (9, .int (y9)), (10, .int (y10)), (11, .int (r.1))] → W p l e R s m args below meth cd H locs cN sN Q (F0 m 484 ls [])) → W p l e R s m args below meth cd H locs cN sN Q (F0 m 361 ls []) := by
  have hx := X.1
  have hb := X.2.1
  have hown := X.2.2.2.1
  have hts := X.2.2.2.2.1
  intro n
  induction n with
  | zero =>
    intro w11 w12 w13 G H locs ls r hT
    rw [xL_ahead_T_L361] at hT
    cases hT
  | succ n ih =>
    intro w11 w12 w13 G H locs ls r hT Z hl k0
    rw [xL_ahead_T_L361] at hT
    refine lv_iload hx hb dL_ahead_361 (lv_at hl 12 rfl) ?_
    refine lv_iload hx hb dL_ahead_363 (lv_at hl 7 rfl) ?_
    refine lv_iconst (v := (2 : Int32)) hx hb dL_ahead_365 (by decide) ?_
    refine lv_icmp_ne (tgt := 373) hx hb dL_ahead_366 (by decide) (fun h_10 => ?_) (fun h_10 => ?_)
    · replace hT := mx_f hT h_10
      refine lv_bipush (v := (21 : Int32)) hx hb dL_ahead_373 (by decide) ?_
      refine lv_icmp_ge (tgt := 484) hx hb dL_ahead_375 (by decide) (fun h_11 => ?_) (fun h_11 => ?_)
      · replace hT := mx_t hT h_11
        cases hT
        exact k0 _ _ _ Z (lv_sub hl [0, 1, 2, 3, 4, 5, 6, 7, 8, 9, 10] rfl)
      · replace hT := mx_f hT h_11
        refine lv_aload_n hx hb dL_ahead_378 rfl (lv_at hl 1 rfl) ?_
        refine lv_aload hx hb dL_ahead_379 (lv_at hl 4 rfl) ?_
        obtain ⟨q_12, h_q_12, hT⟩ := mx_bind hT
        refine mx_callS (As := [.ref (mad E (246)), .ref (mad E (252))]) (rest := []) (st1 := []) X Z hl.1 (mL_copy l E hJ hy2 hy5 _ _ h_q_12) wd_17_0 wd_17_1 wd_10_7 wd_17_2 hdL_copy ⟨Nat.le_trans (by decide) hR.1, Nat.le_trans (by decide) hR.2⟩ ⟨by omega, by omega⟩ (Nat.le_of_ble_eq_true rfl) rfl rfl dL_ahead_381 (fun H locs Z => ?_)
        refine lv_aload_n hx hb dL_ahead_384 rfl (lv_at hl 2 rfl) ?_
        refine lv_aload hx hb dL_ahead_385 (lv_at hl 5 rfl) ?_
        obtain ⟨q_13, h_q_13, hT⟩ := mx_bind hT
        refine mx_callS (As := [.ref (mad E (247)), .ref (mad E (253))]) (rest := []) (st1 := []) X Z hl.1 (mL_copy l E hJ hy3 hy6 _ _ h_q_13) wd_17_0 wd_17_1 wd_10_7 wd_17_2 hdL_copy ⟨Nat.le_trans (by decide) hR.1, Nat.le_trans (by decide) hR.2⟩ ⟨by omega, by omega⟩ (Nat.le_of_ble_eq_true rfl) rfl rfl dL_ahead_387 (fun H locs Z => ?_)
        refine lv_aload hx hb dL_ahead_390 (lv_at hl 3 rfl) ?_
        refine lv_aload hx hb dL_ahead_392 (lv_at hl 6 rfl) ?_
        obtain ⟨q_14, h_q_14, hT⟩ := mx_bind hT
        refine mx_callS (As := [.ref (mad E (248)), .ref (mad E (254))]) (rest := []) (st1 := []) X Z hl.1 (mL_copy l E hJ hy4 hy7 _ _ h_q_14) wd_17_0 wd_17_1 wd_10_7 wd_17_2 hdL_copy ⟨Nat.le_trans (by decide) hR.1, Nat.le_trans (by decide) hR.2⟩ ⟨by omega, by omega⟩ (Nat.le_of_ble_eq_true rfl) rfl rfl dL_ahead_394 (fun H locs Z => ?_)
        refine lv_iload hx hb dL_ahead_397 (lv_at hl 7 rfl) ?_
        refine lv_iconst (v := (2 : Int32)) hx hb dL_ahead_399 (by decide) ?_
        refine lv_icmp_ne (tgt := 412) hx hb dL_ahead_400 (by decide) (fun h_15 => ?_) (fun h_15 => ?_)
        · refine lv_aload hx hb dL_ahead_412 (lv_at hl 6 rfl) ?_
          refine lv_bipush (v := (10 : Int32)) hx hb dL_ahead_414 (by decide) ?_
          refine lv_iload hx hb dL_ahead_416 (lv_at hl 9 rfl) ?_
          refine lv_imul hx hb dL_ahead_418 ?_
          refine lv_iconst (v := (1 : Int32)) hx hb dL_ahead_419 (by decide) ?_
          refine lv_iadd hx hb dL_ahead_420 ?_
          refine lv_iload hx hb dL_ahead_421 (lv_at hl 12 rfl) ?_
          obtain ⟨h_16, hT⟩ := mx_chk hT
          obtain ⟨G_17, e_G_17, hT⟩ := mx_nm hT
          refine mx_iast X Z hy7 h_16 dL_ahead_423 (fun H locs Z => ?_)
          rw [e_G_17] at Z
          refine lv_iconst (v := (0 : Int32)) hx hb dL_ahead_424 (by decide) ?_
          refine lv_istore (lv' := [(14, .int ((0 : Int32))), (0, .ref (mad E (240))), (2, .ref (mad E (246))), (3, .ref (mad E (247))), (4, .ref (mad E (248))), (5, .ref (mad E (252))), (6, .ref (mad E (253))), (7, .ref (mad E (254))), (8, .int (y8)), (9, .int (y9)), (10, .int (y10)), (11, .int (w11)), (12, .int (w12)), (13, .int (w13))]) hx hb dL_ahead_425 hl (by decide) rfl (fun ls hl => ?_)
          obtain ⟨q_21, h_q_21, hT⟩ := mx_bind hT
          refine kL_ahead_427 X hR hJ ⟨by omega, by omega⟩ hy0 hy2 hy3 hy4 hy5 hy6 hy7 _ _ _ _ _ _ _ _ _ _ _ _ _ h_q_21 Z (lv_sub (l' := [(0, .ref (mad E (240))), (2, .ref (mad E (246))), (3, .ref (mad E (247))), (4, .ref (mad E (248))), (5, .ref (mad E (252))), (6, .ref (mad E (253))), (7, .ref (mad E (254))), (8, .int (y8)), (9, .int (y9)), (10, .int (y10)), (11, .int (w11)), (12, .int (w12)), (13, .int (w13)), (14, .int ((0 : Int32)))]) hl [1, 2, 3, 4, 5, 6, 7, 8, 9, 10, 11, 12, 13, 0] rfl) (fun H locs ls Z hl => ?_)
          · refine lv_iload hx hb dL_ahead_449 (lv_at hl 10 rfl) ?_
            refine lv_if_lt (tgt := 467) hx hb dL_ahead_451 (by decide) (fun h_22 => ?_) (fun h_22 => ?_)
            · replace hT := mx_t hT h_22
              refine lv_iload hx hb dL_ahead_467 (lv_at hl 12 rfl) ?_
              refine lv_istore (lv' := [(11, .int (w13)), (0, .ref (mad E (240))), (2, .ref (mad E (246))), (3, .ref (mad E (247))), (4, .ref (mad E (248))), (5, .ref (mad E (252))), (6, .ref (mad E (253))), (7, .ref (mad E (254))), (8, .int (y8)), (9, .int (y9)), (10, .int (y10)), (12, .int (w12)), (13, .int (w13))]) hx hb dL_ahead_469 hl (by decide) rfl (fun ls hl => ?_)
              refine lv_aload hx hb dL_ahead_471 (lv_at hl 5 rfl) ?_
              refine lv_bipush (v := (7 : Int32)) hx hb dL_ahead_473 (by decide) ?_
              refine mx_iald X Z hy5 (mx_lit (by decide)) dL_ahead_475 ?_
              refine mx_tops (s2 := [.int (q_21 252 7)]) rfl ?_
              obtain ⟨v_23, e_v_23, hT⟩ := mx_nm hT
              refine mx_tops (congrArg (fun z => (.int (z) :: [] : List Value)) e_v_23) ?_
              refine lv_istore (lv' := [(12, .int (v_23)), (11, .int (w13)), (0, .ref (mad E (240))), (2, .ref (mad E (246))), (3, .ref (mad E (247))), (4, .ref (mad E (248))), (5, .ref (mad E (252))), (6, .ref (mad E (253))), (7, .ref (mad E (254))), (8, .int (y8)), (9, .int (y9)), (10, .int (y10)), (13, .int (w13))]) hx hb dL_ahead_476 hl (by decide) rfl (fun ls hl => ?_)
              obtain ⟨v_24, e_v_24, hT⟩ := mx_nm hT
              refine lv_iinc (v := v_24) (lv' := [(13, .int (v_24)), (12, .int (v_23)), (11, .int (w13)), (0, .ref (mad E (240))), (2, .ref (mad E (246))), (3, .ref (mad E (247))), (4, .ref (mad E (248))), (5, .ref (mad E (252))), (6, .ref (mad E (253))), (7, .ref (mad E (254))), (8, .int (y8)), (9, .int (y9)), (10, .int (y10))]) hx hb dL_ahead_478 hl (k := 12) rfl (by rw [← e_v_24]; rfl) (by decide) rfl (fun ls hl => ?_)
              refine lv_goto (tgt := 361) hx hb dL_ahead_481 (by decide) ?_
              exact ih _ _ _ _ _ _ _ _ hT Z (lv_sub hl [3, 4, 5, 6, 7, 8, 9, 10, 11, 12, 2, 1, 0] rfl) k0
            · replace hT := mx_f hT h_22
              refine lv_aload hx hb dL_ahead_454 (lv_at hl 4 rfl) ?_
              refine lv_bipush (v := (7 : Int32)) hx hb dL_ahead_456 (by decide) ?_
              refine mx_iald X Z hy5 (mx_lit (by decide)) dL_ahead_458 ?_
              refine mx_tops (s2 := [.int (q_21 252 7)]) rfl ?_
              refine lv_iload hx hb dL_ahead_459 (lv_at hl 11 rfl) ?_
              refine lv_icmp_gt (tgt := 467) hx hb dL_ahead_461 (by decide) (fun h_25 => ?_) (fun h_25 => ?_)
              · replace hT := mx_t hT h_25
                refine lv_iload hx hb dL_ahead_467 (lv_at hl 12 rfl) ?_
                refine lv_istore (lv' := [(11, .int (w13)), (0, .ref (mad E (240))), (2, .ref (mad E (246))), (3, .ref (mad E (247))), (4, .ref (mad E (248))), (5, .ref (mad E (252))), (6, .ref (mad E (253))), (7, .ref (mad E (254))), (8, .int (y8)), (9, .int (y9)), (10, .int (y10)), (12, .int (w12)), (13, .int (w13))]) hx hb dL_ahead_469 hl (by decide) rfl (fun ls hl => ?_)
                refine lv_aload hx hb dL_ahead_471 (lv_at hl 5 rfl) ?_
                refine lv_bipush (v := (7 : Int32)) hx hb dL_ahead_473 (by decide) ?_
                refine mx_iald X Z hy5 (mx_lit (by decide)) dL_ahead_475 ?_
                refine mx_tops (s2 := [.int (q_21 252 7)]) rfl ?_
                obtain ⟨v_26, e_v_26, hT⟩ := mx_nm hT
                refine mx_tops (congrArg (fun z => (.int (z) :: [] : List Value)) e_v_26) ?_
                refine lv_istore (lv' := [(12, .int (v_26)), (11, .int (w13)), (0, .ref (mad E (240))), (2, .ref (mad E (246))), (3, .ref (mad E (247))), (4, .ref (mad E (248))), (5, .ref (mad E (252))), (6, .ref (mad E (253))), (7, .ref (mad E (254))), (8, .int (y8)), (9, .int (y9)), (10, .int (y10)), (13, .int (w13))]) hx hb dL_ahead_476 hl (by decide) rfl (fun ls hl => ?_)
                obtain ⟨v_27, e_v_27, hT⟩ := mx_nm hT
                refine lv_iinc (v := v_27) (lv' := [(13, .int (v_27)), (12, .int (v_26)), (11, .int (w13)), (0, .ref (mad E (240))), (2, .ref (mad E (246))), (3, .ref (mad E (247))), (4, .ref (mad E (248))), (5, .ref (mad E (252))), (6, .ref (mad E (253))), (7, .ref (mad E (254))), (8, .int (y8)), (9, .int (y9)), (10, .int (y10))]) hx hb dL_ahead_478 hl (k := 12) rfl (by rw [← e_v_27]; rfl) (by decide) rfl (fun ls hl => ?_)
                refine lv_goto (tgt := 361) hx hb dL_ahead_481 (by decide) ?_
                exact ih _ _ _ _ _ _ _ _ hT Z (lv_sub hl [3, 4, 5, 6, 7, 8, 9, 10, 11, 12, 2, 1, 0] rfl) k0
              · replace hT := mx_f hT h_25
                refine lv_goto (tgt := 478) hx hb dL_ahead_464 (by decide) ?_
                obtain ⟨v_28, e_v_28, hT⟩ := mx_nm hT
                refine lv_iinc (v := v_28) (lv' := [(13, .int (v_28)), (0, .ref (mad E (240))), (2, .ref (mad E (246))), (3, .ref (mad E (247))), (4, .ref (mad E (248))), (5, .ref (mad E (252))), (6, .ref (mad E (253))), (7, .ref (mad E (254))), (8, .int (y8)), (9, .int (y9)), (10, .int (y10)), (11, .int (w11)), (12, .int (w12))]) hx hb dL_ahead_478 hl (k := 12) rfl (by rw [← e_v_28]; rfl) (by decide) rfl (fun ls hl => ?_)
                refine lv_goto (tgt := 361) hx hb dL_ahead_481 (by decide) ?_
                exact ih _ _ _ _ _ _ _ _ hT Z (lv_sub hl [1, 2, 3, 4, 5, 6, 7, 8, 9, 10, 11, 12, 0] rfl) k0
        · exact absurd h_15 h_10
    · replace hT := mx_t hT h_10
      refine lv_iconst (v := (3 : Int32)) hx hb dL_ahead_369 (by decide) ?_
      refine lv_goto (tgt := 375) hx hb dL_ahead_370 (by decide) ?_
      refine lv_icmp_ge (tgt := 484) hx hb dL_ahead_375 (by decide) (fun h_29 => ?_) (fun h_29 => ?_)
      · replace hT := mx_t hT h_29
        cases hT
        exact k0 _ _ _ Z (lv_sub hl [0, 1, 2, 3, 4, 5, 6, 7, 8, 9, 10] rfl)
      · replace hT := mx_f hT h_29
        refine lv_aload_n hx hb dL_ahead_378 rfl (lv_at hl 1 rfl) ?_
        refine lv_aload hx hb dL_ahead_379 (lv_at hl 4 rfl) ?_
        obtain ⟨q_30, h_q_30, hT⟩ := mx_bind hT
        refine mx_callS (As := [.ref (mad E (246)), .ref (mad E (252))]) (rest := []) (st1 := []) X Z hl.1 (mL_copy l E hJ hy2 hy5 _ _ h_q_30) wd_17_0 wd_17_1 wd_10_7 wd_17_2 hdL_copy ⟨Nat.le_trans (by decide) hR.1, Nat.le_trans (by decide) hR.2⟩ ⟨by omega, by omega⟩ (Nat.le_of_ble_eq_true rfl) rfl rfl dL_ahead_381 (fun H locs Z => ?_)
        refine lv_aload_n hx hb dL_ahead_384 rfl (lv_at hl 2 rfl) ?_
        refine lv_aload hx hb dL_ahead_385 (lv_at hl 5 rfl) ?_
        obtain ⟨q_31, h_q_31, hT⟩ := mx_bind hT
        refine mx_callS (As := [.ref (mad E (247)), .ref (mad E (253))]) (rest := []) (st1 := []) X Z hl.1 (mL_copy l E hJ hy3 hy6 _ _ h_q_31) wd_17_0 wd_17_1 wd_10_7 wd_17_2 hdL_copy ⟨Nat.le_trans (by decide) hR.1, Nat.le_trans (by decide) hR.2⟩ ⟨by omega, by omega⟩ (Nat.le_of_ble_eq_true rfl) rfl rfl dL_ahead_387 (fun H locs Z => ?_)
        refine lv_aload hx hb dL_ahead_390 (lv_at hl 3 rfl) ?_
        refine lv_aload hx hb dL_ahead_392 (lv_at hl 6 rfl) ?_
        obtain ⟨q_32, h_q_32, hT⟩ := mx_bind hT
        refine mx_callS (As := [.ref (mad E (248)), .ref (mad E (254))]) (rest := []) (st1 := []) X Z hl.1 (mL_copy l E hJ hy4 hy7 _ _ h_q_32) wd_17_0 wd_17_1 wd_10_7 wd_17_2 hdL_copy ⟨Nat.le_trans (by decide) hR.1, Nat.le_trans (by decide) hR.2⟩ ⟨by omega, by omega⟩ (Nat.le_of_ble_eq_true rfl) rfl rfl dL_ahead_394 (fun H locs Z => ?_)
        refine lv_iload hx hb dL_ahead_397 (lv_at hl 7 rfl) ?_
        refine lv_iconst (v := (2 : Int32)) hx hb dL_ahead_399 (by decide) ?_
        refine lv_icmp_ne (tgt := 412) hx hb dL_ahead_400 (by decide) (fun h_33 => ?_) (fun h_33 => ?_)
        · exact absurd h_10 h_33
        · refine lv_aload hx hb dL_ahead_403 (lv_at hl 4 rfl) ?_
          refine lv_iconst (v := (4 : Int32)) hx hb dL_ahead_405 (by decide) ?_
          refine lv_iload hx hb dL_ahead_406 (lv_at hl 12 rfl) ?_
          obtain ⟨G_34, e_G_34, hT⟩ := mx_nm hT
          refine mx_iast X Z hy5 (mx_lit (by decide)) dL_ahead_408 (fun H locs Z => ?_)
          replace Z : mZ E s.heap H locs (up2 q_32 252 4 w13) := Z
          rw [e_G_34] at Z
          refine lv_goto (tgt := 424) hx hb dL_ahead_409 (by decide) ?_
          refine lv_iconst (v := (0 : Int32)) hx hb dL_ahead_424 (by decide) ?_
          refine lv_istore (lv' := [(14, .int ((0 : Int32))), (0, .ref (mad E (240))), (2, .ref (mad E (246))), (3, .ref (mad E (247))), (4, .ref (mad E (248))), (5, .ref (mad E (252))), (6, .ref (mad E (253))), (7, .ref (mad E (254))), (8, .int (y8)), (9, .int (y9)), (10, .int (y10)), (11, .int (w11)), (12, .int (w12)), (13, .int (w13))]) hx hb dL_ahead_425 hl (by decide) rfl (fun ls hl => ?_)
          obtain ⟨q_35, h_q_35, hT⟩ := mx_bind hT
          refine kL_ahead_427 X hR hJ ⟨by omega, by omega⟩ hy0 hy2 hy3 hy4 hy5 hy6 hy7 _ _ _ _ _ _ _ _ _ _ _ _ _ h_q_35 Z (lv_sub (l' := [(0, .ref (mad E (240))), (2, .ref (mad E (246))), (3, .ref (mad E (247))), (4, .ref (mad E (248))), (5, .ref (mad E (252))), (6, .ref (mad E (253))), (7, .ref (mad E (254))), (8, .int (y8)), (9, .int (y9)), (10, .int (y10)), (11, .int (w11)), (12, .int (w12)), (13, .int (w13)), (14, .int ((0 : Int32)))]) hl [1, 2, 3, 4, 5, 6, 7, 8, 9, 10, 11, 12, 13, 0] rfl) (fun H locs ls Z hl => ?_)
          · refine lv_iload hx hb dL_ahead_449 (lv_at hl 10 rfl) ?_
            refine lv_if_lt (tgt := 467) hx hb dL_ahead_451 (by decide) (fun h_36 => ?_) (fun h_36 => ?_)
            · replace hT := mx_t hT h_36
              refine lv_iload hx hb dL_ahead_467 (lv_at hl 12 rfl) ?_
              refine lv_istore (lv' := [(11, .int (w13)), (0, .ref (mad E (240))), (2, .ref (mad E (246))), (3, .ref (mad E (247))), (4, .ref (mad E (248))), (5, .ref (mad E (252))), (6, .ref (mad E (253))), (7, .ref (mad E (254))), (8, .int (y8)), (9, .int (y9)), (10, .int (y10)), (12, .int (w12)), (13, .int (w13))]) hx hb dL_ahead_469 hl (by decide) rfl (fun ls hl => ?_)
              refine lv_aload hx hb dL_ahead_471 (lv_at hl 5 rfl) ?_
              refine lv_bipush (v := (7 : Int32)) hx hb dL_ahead_473 (by decide) ?_
              refine mx_iald X Z hy5 (mx_lit (by decide)) dL_ahead_475 ?_
              refine mx_tops (s2 := [.int (q_35 252 7)]) rfl ?_
              obtain ⟨v_37, e_v_37, hT⟩ := mx_nm hT
              refine mx_tops (congrArg (fun z => (.int (z) :: [] : List Value)) e_v_37) ?_
              refine lv_istore (lv' := [(12, .int (v_37)), (11, .int (w13)), (0, .ref (mad E (240))), (2, .ref (mad E (246))), (3, .ref (mad E (247))), (4, .ref (mad E (248))), (5, .ref (mad E (252))), (6, .ref (mad E (253))), (7, .ref (mad E (254))), (8, .int (y8)), (9, .int (y9)), (10, .int (y10)), (13, .int (w13))]) hx hb dL_ahead_476 hl (by decide) rfl (fun ls hl => ?_)
              obtain ⟨v_38, e_v_38, hT⟩ := mx_nm hT
              refine lv_iinc (v := v_38) (lv' := [(13, .int (v_38)), (12, .int (v_37)), (11, .int (w13)), (0, .ref (mad E (240))), (2, .ref (mad E (246))), (3, .ref (mad E (247))), (4, .ref (mad E (248))), (5, .ref (mad E (252))), (6, .ref (mad E (253))), (7, .ref (mad E (254))), (8, .int (y8)), (9, .int (y9)), (10, .int (y10))]) hx hb dL_ahead_478 hl (k := 12) rfl (by rw [← e_v_38]; rfl) (by decide) rfl (fun ls hl => ?_)
              refine lv_goto (tgt := 361) hx hb dL_ahead_481 (by decide) ?_
              exact ih _ _ _ _ _ _ _ _ hT Z (lv_sub hl [3, 4, 5, 6, 7, 8, 9, 10, 11, 12, 2, 1, 0] rfl) k0
            · replace hT := mx_f hT h_36
              refine lv_aload hx hb dL_ahead_454 (lv_at hl 4 rfl) ?_
              refine lv_bipush (v := (7 : Int32)) hx hb dL_ahead_456 (by decide) ?_
              refine mx_iald X Z hy5 (mx_lit (by decide)) dL_ahead_458 ?_
              refine mx_tops (s2 := [.int (q_35 252 7)]) rfl ?_
              refine lv_iload hx hb dL_ahead_459 (lv_at hl 11 rfl) ?_
              refine lv_icmp_gt (tgt := 467) hx hb dL_ahead_461 (by decide) (fun h_39 => ?_) (fun h_39 => ?_)
              · replace hT := mx_t hT h_39
                refine lv_iload hx hb dL_ahead_467 (lv_at hl 12 rfl) ?_
                refine lv_istore (lv' := [(11, .int (w13)), (0, .ref (mad E (240))), (2, .ref (mad E (246))), (3, .ref (mad E (247))), (4, .ref (mad E (248))), (5, .ref (mad E (252))), (6, .ref (mad E (253))), (7, .ref (mad E (254))), (8, .int (y8)), (9, .int (y9)), (10, .int (y10)), (12, .int (w12)), (13, .int (w13))]) hx hb dL_ahead_469 hl (by decide) rfl (fun ls hl => ?_)
                refine lv_aload hx hb dL_ahead_471 (lv_at hl 5 rfl) ?_
                refine lv_bipush (v := (7 : Int32)) hx hb dL_ahead_473 (by decide) ?_
                refine mx_iald X Z hy5 (mx_lit (by decide)) dL_ahead_475 ?_
                refine mx_tops (s2 := [.int (q_35 252 7)]) rfl ?_
                obtain ⟨v_40, e_v_40, hT⟩ := mx_nm hT
                refine mx_tops (congrArg (fun z => (.int (z) :: [] : List Value)) e_v_40) ?_
                refine lv_istore (lv' := [(12, .int (v_40)), (11, .int (w13)), (0, .ref (mad E (240))), (2, .ref (mad E (246))), (3, .ref (mad E (247))), (4, .ref (mad E (248))), (5, .ref (mad E (252))), (6, .ref (mad E (253))), (7, .ref (mad E (254))), (8, .int (y8)), (9, .int (y9)), (10, .int (y10)), (13, .int (w13))]) hx hb dL_ahead_476 hl (by decide) rfl (fun ls hl => ?_)
                obtain ⟨v_41, e_v_41, hT⟩ := mx_nm hT
                refine lv_iinc (v := v_41) (lv' := [(13, .int (v_41)), (12, .int (v_40)), (11, .int (w13)), (0, .ref (mad E (240))), (2, .ref (mad E (246))), (3, .ref (mad E (247))), (4, .ref (mad E (248))), (5, .ref (mad E (252))), (6, .ref (mad E (253))), (7, .ref (mad E (254))), (8, .int (y8)), (9, .int (y9)), (10, .int (y10))]) hx hb dL_ahead_478 hl (k := 12) rfl (by rw [← e_v_41]; rfl) (by decide) rfl (fun ls hl => ?_)
                refine lv_goto (tgt := 361) hx hb dL_ahead_481 (by decide) ?_
                exact ih _ _ _ _ _ _ _ _ hT Z (lv_sub hl [3, 4, 5, 6, 7, 8, 9, 10, 11, 12, 2, 1, 0] rfl) k0
              · replace hT := mx_f hT h_39
                refine lv_goto (tgt := 478) hx hb dL_ahead_464 (by decide) ?_
                obtain ⟨v_42, e_v_42, hT⟩ := mx_nm hT
                refine lv_iinc (v := v_42) (lv' := [(13, .int (v_42)), (0, .ref (mad E (240))), (2, .ref (mad E (246))), (3, .ref (mad E (247))), (4, .ref (mad E (248))), (5, .ref (mad E (252))), (6, .ref (mad E (253))), (7, .ref (mad E (254))), (8, .int (y8)), (9, .int (y9)), (10, .int (y10)), (11, .int (w11)), (12, .int (w12))]) hx hb dL_ahead_478 hl (k := 12) rfl (by rw [← e_v_42]; rfl) (by decide) rfl (fun ls hl => ?_)
                refine lv_goto (tgt := 361) hx hb dL_ahead_481 (by decide) ?_
                exact ih _ _ _ _ _ _ _ _ hT Z (lv_sub hl [1, 2, 3, 4, 5, 6, 7, 8, 9, 10, 11, 12, 0] rfl) k0
set_option maxHeartbeats 4000000 in
set_option maxRecDepth 100000 in
theorem kL_ahead_239 {p : Program} {l : Launch} {e : Env} {R : Room} {s : State} {m : MethodId} {args : Array Value} {below : List Frame} {meth : Method} {cd : Code} {Q : State → Prop} {E : mE} (X : mX p s m args cd cL_ahead 15 RL E) (hR : 7 ≤ R.frames ∧ 165 ≤ R.locals) (hJ : mJ E) {cN sN : Nat} (hC : cN ≤ R.cells ∧ sN ≤ R.slots) (hy0 : mAl E 240) (hy2 : mAi E 246 1 10) (hy5 : mAi E 252 1 10) (hy6 : mAi E 253 1 24) (hy7 : mAi E 254 1 40) (y10 : Int32) : ∀ (n : Nat) (w11 : Int32) (G : mM) (H : Heap) (locs : List Loc) (ls : Array Slot) (r : Int32 × mM), xL_ahead_T_L239 y10 n w11 G = some r → mZ E s.heap H locs G → lv_has ls 15 [(0, .ref (mad E (240))), (2, .ref (mad E (246))), (5, .ref (mad E (252))), (6, .ref (mad E (253))), (7, .ref (mad E (254))), (10, .int (y10)), (11, .int (w11))] → (∀ (H : Heap) (locs : List Loc) (ls : Array Slot), mZ E s.heap H locs r.2 → lv_has ls 15 [(0, .ref (mad E (240))), (2, .ref (mad E (246))), (5, .ref (mad E (252))), (6, .ref (mad E (253))), (7, .ref (mad E (254))), (10, .int (y10)), (11, .int (r.1))] → W p l e R s m args below meth cd H locs cN sN Q (F0 m 277 ls [])) → W p l e R s m args below meth cd H locs cN sN Q (F0 m 239 ls []) := by
  have hx := X.1
  have hb := X.2.1
  have hown := X.2.2.2.1
  have hts := X.2.2.2.2.1
  intro n
  induction n with
  | zero =>
    intro w11 G H locs ls r hT
    rw [xL_ahead_T_L239] at hT
    cases hT
  | succ n ih =>
    intro w11 G H locs ls r hT Z hl k0
    rw [xL_ahead_T_L239] at hT
    refine lv_iload hx hb dL_ahead_239 (lv_at hl 6 rfl) ?_
    refine lv_sipush (v := (501 : Int32)) hx hb dL_ahead_241 (by decide) ?_
    refine lv_icmp_ge (tgt := 277) hx hb dL_ahead_244 (by decide) (fun h_70 => ?_) (fun h_70 => ?_)
    · replace hT := mx_t hT h_70
      cases hT
      exact k0 _ _ _ Z (lv_sub hl [0, 1, 2, 3, 4, 5, 6] rfl)
    · replace hT := mx_f hT h_70
      refine lv_aload hx hb dL_ahead_247 (lv_at hl 2 rfl) ?_
      refine lv_bipush (v := (7 : Int32)) hx hb dL_ahead_249 (by decide) ?_
      refine mx_iald X Z hy5 (mx_lit (by decide)) dL_ahead_251 ?_
      refine mx_tops (s2 := [.int (G 252 7)]) rfl ?_
      refine lv_aload_n hx hb dL_ahead_252 rfl (lv_at hl 1 rfl) ?_
      refine lv_bipush (v := (7 : Int32)) hx hb dL_ahead_253 (by decide) ?_
      refine mx_iald X Z hy2 (mx_lit (by decide)) dL_ahead_255 ?_
      refine mx_tops (s2 := [.int (G 246 7), .int (G 252 7)]) rfl ?_
      refine lv_iload hx hb dL_ahead_256 (lv_at hl 5 rfl) ?_
      refine lv_iadd hx hb dL_ahead_258 ?_
      refine lv_icmp_ge (tgt := 277) hx hb dL_ahead_259 (by decide) (fun h_71 => ?_) (fun h_71 => ?_)
      · replace hT := mx_t hT h_71
        cases hT
        exact k0 _ _ _ Z (lv_sub hl [0, 1, 2, 3, 4, 5, 6] rfl)
      · replace hT := mx_f hT h_71
        refine lv_aload hx hb dL_ahead_262 (lv_at hl 2 rfl) ?_
        refine lv_aload hx hb dL_ahead_264 (lv_at hl 3 rfl) ?_
        refine lv_aload hx hb dL_ahead_266 (lv_at hl 4 rfl) ?_
        obtain ⟨q_72, h_q_72, hT⟩ := mx_bind hT
        refine mx_callS (As := [.ref (mad E (252)), .ref (mad E (253)), .ref (mad E (254))]) (rest := []) (st1 := []) X Z hl.1 (mL_tick l E hJ hy5 hy6 hy7 _ _ h_q_72) wd_17_9 wd_17_10 wd_10_7 wd_17_11 hdL_tick ⟨Nat.le_trans (by decide) hR.1, Nat.le_trans (by decide) hR.2⟩ ⟨by omega, by omega⟩ (Nat.le_of_ble_eq_true rfl) rfl rfl dL_ahead_268 (fun H locs Z => ?_)
        obtain ⟨v_73, e_v_73, hT⟩ := mx_nm hT
        refine lv_iinc (v := v_73) (lv' := [(11, .int (v_73)), (0, .ref (mad E (240))), (2, .ref (mad E (246))), (5, .ref (mad E (252))), (6, .ref (mad E (253))), (7, .ref (mad E (254))), (10, .int (y10))]) hx hb dL_ahead_271 hl (k := 6) rfl (by rw [← e_v_73]; rfl) (by decide) rfl (fun ls hl => ?_)
        refine lv_goto (tgt := 239) hx hb dL_ahead_274 (by decide) ?_
        exact ih _ _ _ _ _ _ hT Z (lv_sub hl [1, 2, 3, 4, 5, 6, 0] rfl) k0
set_option maxHeartbeats 4000000 in
set_option maxRecDepth 100000 in
theorem kL_ahead_67 {p : Program} {l : Launch} {e : Env} {R : Room} {s : State} {m : MethodId} {args : Array Value} {below : List Frame} {meth : Method} {cd : Code} {Q : State → Prop} {E : mE} (X : mX p s m args cd cL_ahead 15 RL E) (hR : 7 ≤ R.frames ∧ 165 ≤ R.locals) (hJ : mJ E) {cN sN : Nat} (hC : cN ≤ R.cells ∧ sN ≤ R.slots) (hy0 : mAl E 240) (hy2 : mAi E 246 1 10) (hy4 : mAi E 248 1 40) (hy5 : mAi E 252 1 10) (hy6 : mAi E 253 1 24) (hy7 : mAi E 254 1 40) (y9 : Int32) : ∀ (n : Nat) (w10 : Int32) (w11 : Int32) (G : mM) (H : Heap) (locs : List Loc) (ls : Array Slot) (r : Int32 × mM), xL_ahead_T_L67 y9 n w10 w11 G = some r → mZ E s.heap H locs G → lv_has ls 15 [(0, .ref (mad E (240))), (2, .ref (mad E (246))), (4, .ref (mad E (248))), (5, .ref (mad E (252))), (6, .ref (mad E (253))), (7, .ref (mad E (254))), (9, .int (y9)), (10, .int (w10)), (11, .int (w11))] → (∀ (H : Heap) (locs : List Loc) (ls : Array Slot), mZ E s.heap H locs r.2 → lv_has ls 15 [(0, .ref (mad E (240))), (2, .ref (mad E (246))), (4, .ref (mad E (248))), (5, .ref (mad E (252))), (6, .ref (mad E (253))), (7, .ref (mad E (254))), (9, .int (y9)), (10, .int (r.1))] → W p l e R s m args below meth cd H locs cN sN Q (F0 m 115 ls [])) → W p l e R s m args below meth cd H locs cN sN Q (F0 m 67 ls []) := by
  have hx := X.1
  have hb := X.2.1
  have hown := X.2.2.2.1
  have hts := X.2.2.2.2.1
  intro n
  induction n with
  | zero =>
    intro w10 w11 G H locs ls r hT
    rw [xL_ahead_T_L67] at hT
    cases hT
  | succ n ih =>
    intro w10 w11 G H locs ls r hT Z hl k0
    rw [xL_ahead_T_L67] at hT
    refine lv_iload hx hb dL_ahead_67 (lv_at hl 8 rfl) ?_
    refine lv_iload hx hb dL_ahead_69 (lv_at hl 6 rfl) ?_
    refine lv_icmp_ge (tgt := 115) hx hb dL_ahead_71 (by decide) (fun h_82 => ?_) (fun h_82 => ?_)
    · replace hT := mx_t hT h_82
      cases hT
      exact k0 _ _ _ Z (lv_sub hl [0, 1, 2, 3, 4, 5, 6, 7] rfl)
    · replace hT := mx_f hT h_82
      refine lv_aload hx hb dL_ahead_74 (lv_at hl 3 rfl) ?_
      refine lv_aload hx hb dL_ahead_76 (lv_at hl 4 rfl) ?_
      refine lv_aload hx hb dL_ahead_78 (lv_at hl 5 rfl) ?_
      obtain ⟨q_83, h_q_83, hT⟩ := mx_bind hT
      refine mx_callS (As := [.ref (mad E (252)), .ref (mad E (253)), .ref (mad E (254))]) (rest := []) (st1 := []) X Z hl.1 (mL_tick l E hJ hy5 hy6 hy7 _ _ h_q_83) wd_17_9 wd_17_10 wd_10_7 wd_17_11 hdL_tick ⟨Nat.le_trans (by decide) hR.1, Nat.le_trans (by decide) hR.2⟩ ⟨by omega, by omega⟩ (Nat.le_of_ble_eq_true rfl) rfl rfl dL_ahead_80 (fun H locs Z => ?_)
      refine lv_aload hx hb dL_ahead_83 (lv_at hl 3 rfl) ?_
      refine lv_aload hx hb dL_ahead_85 (lv_at hl 4 rfl) ?_
      obtain ⟨q_84, h_q_84, hT⟩ := mx_bind hT
      refine mx_callS (As := [.ref (mad E (252)), .ref (mad E (253))]) (rest := []) (st1 := [.int (q_84)]) X Z hl.1 (mL_sunk l E hJ hy5 hy6 _ _ h_q_84) wd_16_9 wd_16_10 wd_10_7 wd_16_11 hdL_sunk ⟨Nat.le_trans (by decide) hR.1, Nat.le_trans (by decide) hR.2⟩ ⟨by omega, by omega⟩ (Nat.le_of_ble_eq_true rfl) rfl rfl dL_ahead_87 (fun H locs Z => ?_)
      refine lv_iload hx hb dL_ahead_90 (lv_at hl 7 rfl) ?_
      refine lv_icmp_le (tgt := 105) hx hb dL_ahead_92 (by decide) (fun h_85 => ?_) (fun h_85 => ?_)
      · replace hT := mx_t hT h_85
        refine lv_iload hx hb dL_ahead_105 (lv_at hl 7 rfl) ?_
        refine lv_istore (lv' := [(10, .int (w10)), (0, .ref (mad E (240))), (2, .ref (mad E (246))), (4, .ref (mad E (248))), (5, .ref (mad E (252))), (6, .ref (mad E (253))), (7, .ref (mad E (254))), (9, .int (y9)), (11, .int (w11))]) hx hb dL_ahead_107 hl (by decide) rfl (fun ls hl => ?_)
        obtain ⟨v_86, e_v_86, hT⟩ := mx_nm hT
        refine lv_iinc (v := v_86) (lv' := [(11, .int (v_86)), (10, .int (w10)), (0, .ref (mad E (240))), (2, .ref (mad E (246))), (4, .ref (mad E (248))), (5, .ref (mad E (252))), (6, .ref (mad E (253))), (7, .ref (mad E (254))), (9, .int (y9))]) hx hb dL_ahead_109 hl (k := 8) rfl (by rw [← e_v_86]; rfl) (by decide) rfl (fun ls hl => ?_)
        refine lv_goto (tgt := 67) hx hb dL_ahead_112 (by decide) ?_
        exact ih _ _ _ _ _ _ _ hT Z (lv_sub hl [2, 3, 4, 5, 6, 7, 8, 1, 0] rfl) k0
      · replace hT := mx_f hT h_85
        refine lv_aload hx hb dL_ahead_95 (lv_at hl 3 rfl) ?_
        refine lv_aload hx hb dL_ahead_97 (lv_at hl 4 rfl) ?_
        obtain ⟨q_87, h_q_87, hT⟩ := mx_bind hT
        refine mx_callS (As := [.ref (mad E (252)), .ref (mad E (253))]) (rest := []) (st1 := [.int (q_87)]) X Z hl.1 (mL_sunk l E hJ hy5 hy6 _ _ h_q_87) wd_16_9 wd_16_10 wd_10_7 wd_16_11 hdL_sunk ⟨Nat.le_trans (by decide) hR.1, Nat.le_trans (by decide) hR.2⟩ ⟨by omega, by omega⟩ (Nat.le_of_ble_eq_true rfl) rfl rfl dL_ahead_99 (fun H locs Z => ?_)
        refine lv_goto (tgt := 107) hx hb dL_ahead_102 (by decide) ?_
        refine lv_istore (lv' := [(10, .int (q_87)), (0, .ref (mad E (240))), (2, .ref (mad E (246))), (4, .ref (mad E (248))), (5, .ref (mad E (252))), (6, .ref (mad E (253))), (7, .ref (mad E (254))), (9, .int (y9)), (11, .int (w11))]) hx hb dL_ahead_107 hl (by decide) rfl (fun ls hl => ?_)
        obtain ⟨v_88, e_v_88, hT⟩ := mx_nm hT
        refine lv_iinc (v := v_88) (lv' := [(11, .int (v_88)), (10, .int (q_87)), (0, .ref (mad E (240))), (2, .ref (mad E (246))), (4, .ref (mad E (248))), (5, .ref (mad E (252))), (6, .ref (mad E (253))), (7, .ref (mad E (254))), (9, .int (y9))]) hx hb dL_ahead_109 hl (k := 8) rfl (by rw [← e_v_88]; rfl) (by decide) rfl (fun ls hl => ?_)
        refine lv_goto (tgt := 67) hx hb dL_ahead_112 (by decide) ?_
        exact ih _ _ _ _ _ _ _ hT Z (lv_sub hl [2, 3, 4, 5, 6, 7, 8, 1, 0] rfl) k0
set_option maxHeartbeats 4000000 in
set_option maxRecDepth 100000 in
theorem tL_ahead {p : Program} {l : Launch} {e : Env} {R : Room} {s : State} {m : MethodId} {args : Array Value} {below : List Frame} {meth : Method} {cd : Code} {Q : State → Prop} {E : mE} (X : mX p s m args cd cL_ahead 15 RL E) (hR : 7 ≤ R.frames ∧ 165 ≤ R.locals) (hJ : mJ E) {cN sN : Nat} (hC : cN ≤ R.cells ∧ sN ≤ R.slots) (hc : mAl E 240) (h2 : mAi E 246 1 10) (h3 : mAi E 247 1 24) (h4 : mAi E 248 1 40) (h5 : mAi E 252 1 10) (h6 : mAi E 253 1 24) (h7 : mAi E 254 1 40) (x1 : Int32) (G : mM) (q : (Int32 × mM)) (hT : xL_ahead_T x1 G = some q) (kk : ∀ (H : Heap) (locs : List Loc) (ls : Array Slot) (pc : Nat), mZ E s.heap H locs q.2 → mBl q.1 → decode cL_ahead pc = .ok (.ireturn, 1) → W p l e R s m args below meth cd H locs cN sN Q (F0 m pc ls [.int q.1])) (H : Heap) (locs : List Loc) (ls : Array Slot) (Z : mZ E s.heap H locs G) (hl : lv_has ls 15 [(7, .ref (mad E (254))), (6, .ref (mad E (253))), (5, .ref (mad E (252))), (4, .ref (mad E (248))), (3, .ref (mad E (247))), (2, .ref (mad E (246))), (1, .int (x1)), (0, .ref (mad E (240)))]) : W p l e R s m args below meth cd H locs cN sN Q (F0 m 18 ls []) := by
  have hx := X.1
  have hb := X.2.1
  have hown := X.2.2.2.1
  have hts := X.2.2.2.2.1
  unfold xL_ahead_T at hT
  refine lv_iload_n hx hb dL_ahead_18 rfl (lv_at hl 6 rfl) ?_
  refine lv_iconst (v := (4 : Int32)) hx hb dL_ahead_19 (by decide) ?_
  obtain ⟨q_1, h_q_1, hT⟩ := mx_bind hT
  refine mx_callS (As := [.int (x1), .int ((4 : Int32))]) (rest := []) (st1 := [.int (q_1)]) X Z hl.1 (mL_at l E hJ _ _ _ _ h_q_1) wd_17_3 wd_17_4 wd_10_7 wd_17_5 hdL_at ⟨Nat.le_trans (by decide) hR.1, Nat.le_trans (by decide) hR.2⟩ ⟨by omega, by omega⟩ (Nat.le_of_ble_eq_true rfl) rfl rfl dL_ahead_20 (fun H locs Z => ?_)
  refine lv_istore (lv' := [(8, .int (q_1)), (7, .ref (mad E (254))), (6, .ref (mad E (253))), (5, .ref (mad E (252))), (4, .ref (mad E (248))), (3, .ref (mad E (247))), (2, .ref (mad E (246))), (1, .int (x1)), (0, .ref (mad E (240)))]) hx hb dL_ahead_23 hl (by decide) rfl (fun ls hl => ?_)
  refine lv_iconst (v := (1 : Int32)) hx hb dL_ahead_25 (by decide) ?_
  refine lv_iload_n hx hb dL_ahead_26 rfl (lv_at hl 7 rfl) ?_
  refine lv_iconst (v := (2 : Int32)) hx hb dL_ahead_27 (by decide) ?_
  refine lv_ishr hx hb dL_ahead_28 ?_
  refine lv_bipush (v := (90 : Int32)) hx hb dL_ahead_29 (by decide) ?_
  obtain ⟨q_2, h_q_2, hT⟩ := mx_bind hT
  refine mx_callS (As := [.int (x1 >>> ((2 : Int32) &&& 31)), .int ((90 : Int32))]) (rest := [.int ((1 : Int32))]) (st1 := [.int (q_2), .int ((1 : Int32))]) X Z hl.1 (mL_at l E hJ _ _ _ _ h_q_2) wd_17_3 wd_17_4 wd_10_7 wd_17_5 hdL_at ⟨Nat.le_trans (by decide) hR.1, Nat.le_trans (by decide) hR.2⟩ ⟨by omega, by omega⟩ (Nat.le_of_ble_eq_true rfl) rfl rfl dL_ahead_31 (fun H locs Z => ?_)
  refine lv_iadd hx hb dL_ahead_34 ?_
  obtain ⟨v_3, e_v_3, hT⟩ := mx_nm hT
  refine mx_tops (congrArg (fun z => (.int (z) :: [] : List Value)) e_v_3) ?_
  refine lv_istore (lv' := [(9, .int (v_3)), (8, .int (q_1)), (7, .ref (mad E (254))), (6, .ref (mad E (253))), (5, .ref (mad E (252))), (4, .ref (mad E (248))), (3, .ref (mad E (247))), (2, .ref (mad E (246))), (1, .int (x1)), (0, .ref (mad E (240)))]) hx hb dL_ahead_35 hl (by decide) rfl (fun ls hl => ?_)
  refine lv_iload hx hb dL_ahead_37 (lv_at hl 1 rfl) ?_
  refine lv_if_ne (tgt := 198) hx hb dL_ahead_39 (by decide) (fun h_4 => ?_) (fun h_4 => ?_)
  · replace hT := mx_f hT h_4
    refine lv_iload hx hb dL_ahead_198 (lv_at hl 1 rfl) ?_
    refine lv_iconst (v := (1 : Int32)) hx hb dL_ahead_200 (by decide) ?_
    refine lv_icmp_ne (tgt := 306) hx hb dL_ahead_201 (by decide) (fun h_5 => ?_) (fun h_5 => ?_)
    · replace hT := mx_f hT h_5
      refine lv_iload hx hb dL_ahead_306 (lv_at hl 1 rfl) ?_
      refine lv_iconst (v := (3 : Int32)) hx hb dL_ahead_308 (by decide) ?_
      refine lv_icmp_ne (tgt := 320) hx hb dL_ahead_309 (by decide) (fun h_6 => ?_) (fun h_6 => ?_)
      · replace hT := mx_f hT h_6
        refine lv_iload hx hb dL_ahead_320 (lv_at hl 1 rfl) ?_
        refine lv_iconst (v := (2 : Int32)) hx hb dL_ahead_322 (by decide) ?_
        refine lv_icmp_ne (tgt := 330) hx hb dL_ahead_323 (by decide) (fun h_7 => ?_) (fun h_7 => ?_)
        · replace hT := mx_f hT h_7
          refine lv_iload_n hx hb dL_ahead_330 rfl (lv_at hl 8 rfl) ?_
          refine lv_bipush (v := (10 : Int32)) hx hb dL_ahead_331 (by decide) ?_
          refine lv_ishr hx hb dL_ahead_333 ?_
          refine lv_aload_n hx hb dL_ahead_334 rfl (lv_at hl 7 rfl) ?_
          refine lv_iconst (v := (1 : Int32)) hx hb dL_ahead_335 (by decide) ?_
          refine mx_iald X Z h2 (mx_lit (by decide)) dL_ahead_336 ?_
          refine mx_tops (s2 := [.int (G 246 1), .int (x1 >>> ((10 : Int32) &&& 31))]) rfl ?_
          obtain ⟨q_8, h_q_8, hT⟩ := mx_bind hT
          refine mx_callS (As := [.int (x1 >>> ((10 : Int32) &&& 31)), .int (G 246 1)]) (rest := []) (st1 := [.int (q_8)]) X Z hl.1 (mL_at l E hJ _ _ _ _ h_q_8) wd_17_3 wd_17_4 wd_10_7 wd_17_5 hdL_at ⟨Nat.le_trans (by decide) hR.1, Nat.le_trans (by decide) hR.2⟩ ⟨by omega, by omega⟩ (Nat.le_of_ble_eq_true rfl) rfl rfl dL_ahead_337 (fun H locs Z => ?_)
          refine lv_istore (lv' := [(10, .int (q_8)), (9, .int (v_3)), (8, .int (q_1)), (7, .ref (mad E (254))), (6, .ref (mad E (253))), (5, .ref (mad E (252))), (4, .ref (mad E (248))), (3, .ref (mad E (247))), (2, .ref (mad E (246))), (1, .int (x1)), (0, .ref (mad E (240)))]) hx hb dL_ahead_340 hl (by decide) rfl (fun ls hl => ?_)
          refine lv_iconst (v := (-1 : Int32)) hx hb dL_ahead_342 (by decide) ?_
          refine lv_istore (lv' := [(11, .int ((-1 : Int32))), (10, .int (q_8)), (9, .int (v_3)), (8, .int (q_1)), (7, .ref (mad E (254))), (6, .ref (mad E (253))), (5, .ref (mad E (252))), (4, .ref (mad E (248))), (3, .ref (mad E (247))), (2, .ref (mad E (246))), (1, .int (x1)), (0, .ref (mad E (240)))]) hx hb dL_ahead_343 hl (by decide) rfl (fun ls hl => ?_)
          refine lv_iconst (v := (0 : Int32)) hx hb dL_ahead_345 (by decide) ?_
          refine lv_istore (lv' := [(12, .int ((0 : Int32))), (11, .int ((-1 : Int32))), (10, .int (q_8)), (9, .int (v_3)), (8, .int (q_1)), (7, .ref (mad E (254))), (6, .ref (mad E (253))), (5, .ref (mad E (252))), (4, .ref (mad E (248))), (3, .ref (mad E (247))), (2, .ref (mad E (246))), (1, .int (x1)), (0, .ref (mad E (240)))]) hx hb dL_ahead_346 hl (by decide) rfl (fun ls hl => ?_)
          refine lv_iload hx hb dL_ahead_348 (lv_at hl 4 rfl) ?_
          refine lv_iconst (v := (2 : Int32)) hx hb dL_ahead_350 (by decide) ?_
          refine lv_icmp_ne (tgt := 358) hx hb dL_ahead_351 (by decide) (fun h_9 => ?_) (fun h_9 => ?_)
          · refine lv_iconst (v := (1 : Int32)) hx hb dL_ahead_358 (by decide) ?_
            refine lv_istore (lv' := [(13, .int ((1 : Int32))), (12, .int ((0 : Int32))), (11, .int ((-1 : Int32))), (10, .int (q_8)), (9, .int (v_3)), (8, .int (q_1)), (7, .ref (mad E (254))), (6, .ref (mad E (253))), (5, .ref (mad E (252))), (4, .ref (mad E (248))), (3, .ref (mad E (247))), (2, .ref (mad E (246))), (1, .int (x1)), (0, .ref (mad E (240)))]) hx hb dL_ahead_359 hl (by decide) rfl (fun ls hl => ?_)
            obtain ⟨q_43, h_q_43, hT⟩ := mx_bind hT
            refine kL_ahead_361 X hR hJ ⟨by omega, by omega⟩ hc h2 h3 h4 h5 h6 h7 _ _ _ _ _ _ _ _ _ _ _ _ h_q_43 Z (lv_sub (l' := [(0, .ref (mad E (240))), (2, .ref (mad E (246))), (3, .ref (mad E (247))), (4, .ref (mad E (248))), (5, .ref (mad E (252))), (6, .ref (mad E (253))), (7, .ref (mad E (254))), (8, .int (q_1)), (9, .int (v_3)), (10, .int (q_8)), (11, .int ((-1 : Int32))), (12, .int ((0 : Int32))), (13, .int ((1 : Int32)))]) hl [13, 11, 10, 9, 8, 7, 6, 5, 4, 3, 2, 1, 0] rfl) (fun H locs ls Z hl => ?_)
            · refine lv_iload hx hb dL_ahead_484 (lv_at hl 7 rfl) ?_
              refine lv_iconst (v := (2 : Int32)) hx hb dL_ahead_486 (by decide) ?_
              refine lv_icmp_ne (tgt := 509) hx hb dL_ahead_487 (by decide) (fun h_44 => ?_) (fun h_44 => ?_)
              · refine lv_aload_n hx hb dL_ahead_509 rfl (lv_at hl 0 rfl) ?_
                refine lv_iload hx hb dL_ahead_510 (lv_at hl 9 rfl) ?_
                refine lv_iload hx hb dL_ahead_512 (lv_at hl 8 rfl) ?_
                obtain ⟨q_45, h_q_45, hT⟩ := mx_bind hT
                refine mx_callV (As := [.int (q_8), .int (v_3)]) (rest := []) (st1 := [.int (q_45.1)]) (C := RX5) (T := TX5) (N := 6) (ci := 5) X Z hl.1 (c5_bestLoad l E hJ hc _ _ _ _ h_q_45) wd_24_0 wd_24_1 wd_24_2 wd_1_2 wd_24_3 hd5_bestLoad ⟨Nat.le_trans (by decide) hR.1, Nat.le_trans (by decide) hR.2⟩ ⟨by omega, by omega⟩ hc.i (hc.c _) rfl (Nat.le_of_ble_eq_true rfl) rfl rfl dL_ahead_514 (fun H locs Z => ?_)
                refine lv_iload hx hb dL_ahead_517 (lv_at hl 10 rfl) ?_
                refine lv_icmp_ne (tgt := 526) hx hb dL_ahead_519 (by decide) (fun h_46 => ?_) (fun h_46 => ?_)
                · replace hT := mx_f hT h_46
                  refine lv_iconst (v := (0 : Int32)) hx hb dL_ahead_526 (by decide) ?_
                  cases hT
                  exact kk _ _ _ _ Z (Or.inl rfl) dL_ahead_527
                · replace hT := mx_t hT h_46
                  refine lv_iconst (v := (1 : Int32)) hx hb dL_ahead_522 (by decide) ?_
                  refine lv_goto (tgt := 527) hx hb dL_ahead_523 (by decide) ?_
                  cases hT
                  exact kk _ _ _ _ Z (Or.inr rfl) dL_ahead_527
              · exact absurd h_44 h_7
          · exact absurd h_9 h_7
        · replace hT := mx_t hT h_7
          refine lv_iconst (v := (0 : Int32)) hx hb dL_ahead_326 (by decide) ?_
          refine lv_goto (tgt := 340) hx hb dL_ahead_327 (by decide) ?_
          refine lv_istore (lv' := [(10, .int ((0 : Int32))), (9, .int (v_3)), (8, .int (q_1)), (7, .ref (mad E (254))), (6, .ref (mad E (253))), (5, .ref (mad E (252))), (4, .ref (mad E (248))), (3, .ref (mad E (247))), (2, .ref (mad E (246))), (1, .int (x1)), (0, .ref (mad E (240)))]) hx hb dL_ahead_340 hl (by decide) rfl (fun ls hl => ?_)
          refine lv_iconst (v := (-1 : Int32)) hx hb dL_ahead_342 (by decide) ?_
          refine lv_istore (lv' := [(11, .int ((-1 : Int32))), (10, .int ((0 : Int32))), (9, .int (v_3)), (8, .int (q_1)), (7, .ref (mad E (254))), (6, .ref (mad E (253))), (5, .ref (mad E (252))), (4, .ref (mad E (248))), (3, .ref (mad E (247))), (2, .ref (mad E (246))), (1, .int (x1)), (0, .ref (mad E (240)))]) hx hb dL_ahead_343 hl (by decide) rfl (fun ls hl => ?_)
          refine lv_iconst (v := (0 : Int32)) hx hb dL_ahead_345 (by decide) ?_
          refine lv_istore (lv' := [(12, .int ((0 : Int32))), (11, .int ((-1 : Int32))), (10, .int ((0 : Int32))), (9, .int (v_3)), (8, .int (q_1)), (7, .ref (mad E (254))), (6, .ref (mad E (253))), (5, .ref (mad E (252))), (4, .ref (mad E (248))), (3, .ref (mad E (247))), (2, .ref (mad E (246))), (1, .int (x1)), (0, .ref (mad E (240)))]) hx hb dL_ahead_346 hl (by decide) rfl (fun ls hl => ?_)
          refine lv_iload hx hb dL_ahead_348 (lv_at hl 4 rfl) ?_
          refine lv_iconst (v := (2 : Int32)) hx hb dL_ahead_350 (by decide) ?_
          refine lv_icmp_ne (tgt := 358) hx hb dL_ahead_351 (by decide) (fun h_47 => ?_) (fun h_47 => ?_)
          · exact absurd h_7 h_47
          · refine lv_iconst (v := (0 : Int32)) hx hb dL_ahead_354 (by decide) ?_
            refine lv_goto (tgt := 359) hx hb dL_ahead_355 (by decide) ?_
            refine lv_istore (lv' := [(13, .int ((0 : Int32))), (12, .int ((0 : Int32))), (11, .int ((-1 : Int32))), (10, .int ((0 : Int32))), (9, .int (v_3)), (8, .int (q_1)), (7, .ref (mad E (254))), (6, .ref (mad E (253))), (5, .ref (mad E (252))), (4, .ref (mad E (248))), (3, .ref (mad E (247))), (2, .ref (mad E (246))), (1, .int (x1)), (0, .ref (mad E (240)))]) hx hb dL_ahead_359 hl (by decide) rfl (fun ls hl => ?_)
            obtain ⟨q_48, h_q_48, hT⟩ := mx_bind hT
            refine kL_ahead_361 X hR hJ ⟨by omega, by omega⟩ hc h2 h3 h4 h5 h6 h7 _ _ _ _ _ _ _ _ _ _ _ _ h_q_48 Z (lv_sub (l' := [(0, .ref (mad E (240))), (2, .ref (mad E (246))), (3, .ref (mad E (247))), (4, .ref (mad E (248))), (5, .ref (mad E (252))), (6, .ref (mad E (253))), (7, .ref (mad E (254))), (8, .int (q_1)), (9, .int (v_3)), (10, .int ((0 : Int32))), (11, .int ((-1 : Int32))), (12, .int ((0 : Int32))), (13, .int ((0 : Int32)))]) hl [13, 11, 10, 9, 8, 7, 6, 5, 4, 3, 2, 1, 0] rfl) (fun H locs ls Z hl => ?_)
            · refine lv_iload hx hb dL_ahead_484 (lv_at hl 7 rfl) ?_
              refine lv_iconst (v := (2 : Int32)) hx hb dL_ahead_486 (by decide) ?_
              refine lv_icmp_ne (tgt := 509) hx hb dL_ahead_487 (by decide) (fun h_49 => ?_) (fun h_49 => ?_)
              · exact absurd h_7 h_49
              · refine lv_aload_n hx hb dL_ahead_490 rfl (lv_at hl 0 rfl) ?_
                refine lv_iload hx hb dL_ahead_491 (lv_at hl 8 rfl) ?_
                obtain ⟨q_50, h_q_50, hT⟩ := mx_bind hT
                refine mx_callV (As := [.int (v_3)]) (rest := []) (st1 := [.int (q_50.1)]) (C := RX5) (T := TX5) (N := 6) (ci := 5) X Z hl.1 (c5_bestRule l E hJ hc _ _ _ h_q_50) wd_23_20 wd_23_21 wd_23_22 wd_1_2 wd_23_23 hd5_bestRule ⟨Nat.le_trans (by decide) hR.1, Nat.le_trans (by decide) hR.2⟩ ⟨by omega, by omega⟩ hc.i (hc.c _) rfl (Nat.le_of_ble_eq_true rfl) rfl rfl dL_ahead_493 (fun H locs Z => ?_)
                refine lv_iload hx hb dL_ahead_496 (lv_at hl 10 rfl) ?_
                refine lv_icmp_ne (tgt := 505) hx hb dL_ahead_498 (by decide) (fun h_51 => ?_) (fun h_51 => ?_)
                · replace hT := mx_f hT h_51
                  refine lv_iconst (v := (0 : Int32)) hx hb dL_ahead_505 (by decide) ?_
                  refine lv_goto (tgt := 527) hx hb dL_ahead_506 (by decide) ?_
                  cases hT
                  exact kk _ _ _ _ Z (Or.inl rfl) dL_ahead_527
                · replace hT := mx_t hT h_51
                  refine lv_iconst (v := (1 : Int32)) hx hb dL_ahead_501 (by decide) ?_
                  refine lv_goto (tgt := 527) hx hb dL_ahead_502 (by decide) ?_
                  cases hT
                  exact kk _ _ _ _ Z (Or.inr rfl) dL_ahead_527
      · replace hT := mx_t hT h_6
        refine lv_aload_n hx hb dL_ahead_312 rfl (lv_at hl 7 rfl) ?_
        refine lv_iconst (v := (1 : Int32)) hx hb dL_ahead_313 (by decide) ?_
        refine mx_iald X Z h2 (mx_lit (by decide)) dL_ahead_314 ?_
        refine mx_tops (s2 := [.int (G 246 1)]) rfl ?_
        refine lv_if_ne (tgt := 320) hx hb dL_ahead_315 (by decide) (fun h_52 => ?_) (fun h_52 => ?_)
        · replace hT := mx_f hT h_52
          refine lv_iload hx hb dL_ahead_320 (lv_at hl 1 rfl) ?_
          refine lv_iconst (v := (2 : Int32)) hx hb dL_ahead_322 (by decide) ?_
          refine lv_icmp_ne (tgt := 330) hx hb dL_ahead_323 (by decide) (fun h_53 => ?_) (fun h_53 => ?_)
          · replace hT := mx_f hT h_53
            refine lv_iload_n hx hb dL_ahead_330 rfl (lv_at hl 8 rfl) ?_
            refine lv_bipush (v := (10 : Int32)) hx hb dL_ahead_331 (by decide) ?_
            refine lv_ishr hx hb dL_ahead_333 ?_
            refine lv_aload_n hx hb dL_ahead_334 rfl (lv_at hl 7 rfl) ?_
            refine lv_iconst (v := (1 : Int32)) hx hb dL_ahead_335 (by decide) ?_
            refine mx_iald X Z h2 (mx_lit (by decide)) dL_ahead_336 ?_
            refine mx_tops (s2 := [.int (G 246 1), .int (x1 >>> ((10 : Int32) &&& 31))]) rfl ?_
            obtain ⟨q_54, h_q_54, hT⟩ := mx_bind hT
            refine mx_callS (As := [.int (x1 >>> ((10 : Int32) &&& 31)), .int (G 246 1)]) (rest := []) (st1 := [.int (q_54)]) X Z hl.1 (mL_at l E hJ _ _ _ _ h_q_54) wd_17_3 wd_17_4 wd_10_7 wd_17_5 hdL_at ⟨Nat.le_trans (by decide) hR.1, Nat.le_trans (by decide) hR.2⟩ ⟨by omega, by omega⟩ (Nat.le_of_ble_eq_true rfl) rfl rfl dL_ahead_337 (fun H locs Z => ?_)
            refine lv_istore (lv' := [(10, .int (q_54)), (9, .int (v_3)), (8, .int (q_1)), (7, .ref (mad E (254))), (6, .ref (mad E (253))), (5, .ref (mad E (252))), (4, .ref (mad E (248))), (3, .ref (mad E (247))), (2, .ref (mad E (246))), (1, .int (x1)), (0, .ref (mad E (240)))]) hx hb dL_ahead_340 hl (by decide) rfl (fun ls hl => ?_)
            refine lv_iconst (v := (-1 : Int32)) hx hb dL_ahead_342 (by decide) ?_
            refine lv_istore (lv' := [(11, .int ((-1 : Int32))), (10, .int (q_54)), (9, .int (v_3)), (8, .int (q_1)), (7, .ref (mad E (254))), (6, .ref (mad E (253))), (5, .ref (mad E (252))), (4, .ref (mad E (248))), (3, .ref (mad E (247))), (2, .ref (mad E (246))), (1, .int (x1)), (0, .ref (mad E (240)))]) hx hb dL_ahead_343 hl (by decide) rfl (fun ls hl => ?_)
            refine lv_iconst (v := (0 : Int32)) hx hb dL_ahead_345 (by decide) ?_
            refine lv_istore (lv' := [(12, .int ((0 : Int32))), (11, .int ((-1 : Int32))), (10, .int (q_54)), (9, .int (v_3)), (8, .int (q_1)), (7, .ref (mad E (254))), (6, .ref (mad E (253))), (5, .ref (mad E (252))), (4, .ref (mad E (248))), (3, .ref (mad E (247))), (2, .ref (mad E (246))), (1, .int (x1)), (0, .ref (mad E (240)))]) hx hb dL_ahead_346 hl (by decide) rfl (fun ls hl => ?_)
            refine lv_iload hx hb dL_ahead_348 (lv_at hl 4 rfl) ?_
            refine lv_iconst (v := (2 : Int32)) hx hb dL_ahead_350 (by decide) ?_
            refine lv_icmp_ne (tgt := 358) hx hb dL_ahead_351 (by decide) (fun h_55 => ?_) (fun h_55 => ?_)
            · refine lv_iconst (v := (1 : Int32)) hx hb dL_ahead_358 (by decide) ?_
              refine lv_istore (lv' := [(13, .int ((1 : Int32))), (12, .int ((0 : Int32))), (11, .int ((-1 : Int32))), (10, .int (q_54)), (9, .int (v_3)), (8, .int (q_1)), (7, .ref (mad E (254))), (6, .ref (mad E (253))), (5, .ref (mad E (252))), (4, .ref (mad E (248))), (3, .ref (mad E (247))), (2, .ref (mad E (246))), (1, .int (x1)), (0, .ref (mad E (240)))]) hx hb dL_ahead_359 hl (by decide) rfl (fun ls hl => ?_)
              obtain ⟨q_56, h_q_56, hT⟩ := mx_bind hT
              refine kL_ahead_361 X hR hJ ⟨by omega, by omega⟩ hc h2 h3 h4 h5 h6 h7 _ _ _ _ _ _ _ _ _ _ _ _ h_q_56 Z (lv_sub (l' := [(0, .ref (mad E (240))), (2, .ref (mad E (246))), (3, .ref (mad E (247))), (4, .ref (mad E (248))), (5, .ref (mad E (252))), (6, .ref (mad E (253))), (7, .ref (mad E (254))), (8, .int (q_1)), (9, .int (v_3)), (10, .int (q_54)), (11, .int ((-1 : Int32))), (12, .int ((0 : Int32))), (13, .int ((1 : Int32)))]) hl [13, 11, 10, 9, 8, 7, 6, 5, 4, 3, 2, 1, 0] rfl) (fun H locs ls Z hl => ?_)
              · refine lv_iload hx hb dL_ahead_484 (lv_at hl 7 rfl) ?_
                refine lv_iconst (v := (2 : Int32)) hx hb dL_ahead_486 (by decide) ?_
                refine lv_icmp_ne (tgt := 509) hx hb dL_ahead_487 (by decide) (fun h_57 => ?_) (fun h_57 => ?_)
                · refine lv_aload_n hx hb dL_ahead_509 rfl (lv_at hl 0 rfl) ?_
                  refine lv_iload hx hb dL_ahead_510 (lv_at hl 9 rfl) ?_
                  refine lv_iload hx hb dL_ahead_512 (lv_at hl 8 rfl) ?_
                  obtain ⟨q_58, h_q_58, hT⟩ := mx_bind hT
                  refine mx_callV (As := [.int (q_54), .int (v_3)]) (rest := []) (st1 := [.int (q_58.1)]) (C := RX5) (T := TX5) (N := 6) (ci := 5) X Z hl.1 (c5_bestLoad l E hJ hc _ _ _ _ h_q_58) wd_24_0 wd_24_1 wd_24_2 wd_1_2 wd_24_3 hd5_bestLoad ⟨Nat.le_trans (by decide) hR.1, Nat.le_trans (by decide) hR.2⟩ ⟨by omega, by omega⟩ hc.i (hc.c _) rfl (Nat.le_of_ble_eq_true rfl) rfl rfl dL_ahead_514 (fun H locs Z => ?_)
                  refine lv_iload hx hb dL_ahead_517 (lv_at hl 10 rfl) ?_
                  refine lv_icmp_ne (tgt := 526) hx hb dL_ahead_519 (by decide) (fun h_59 => ?_) (fun h_59 => ?_)
                  · replace hT := mx_f hT h_59
                    refine lv_iconst (v := (0 : Int32)) hx hb dL_ahead_526 (by decide) ?_
                    cases hT
                    exact kk _ _ _ _ Z (Or.inl rfl) dL_ahead_527
                  · replace hT := mx_t hT h_59
                    refine lv_iconst (v := (1 : Int32)) hx hb dL_ahead_522 (by decide) ?_
                    refine lv_goto (tgt := 527) hx hb dL_ahead_523 (by decide) ?_
                    cases hT
                    exact kk _ _ _ _ Z (Or.inr rfl) dL_ahead_527
                · exact absurd h_57 h_53
            · exact absurd h_55 h_53
          · replace hT := mx_t hT h_53
            refine lv_iconst (v := (0 : Int32)) hx hb dL_ahead_326 (by decide) ?_
            refine lv_goto (tgt := 340) hx hb dL_ahead_327 (by decide) ?_
            refine lv_istore (lv' := [(10, .int ((0 : Int32))), (9, .int (v_3)), (8, .int (q_1)), (7, .ref (mad E (254))), (6, .ref (mad E (253))), (5, .ref (mad E (252))), (4, .ref (mad E (248))), (3, .ref (mad E (247))), (2, .ref (mad E (246))), (1, .int (x1)), (0, .ref (mad E (240)))]) hx hb dL_ahead_340 hl (by decide) rfl (fun ls hl => ?_)
            refine lv_iconst (v := (-1 : Int32)) hx hb dL_ahead_342 (by decide) ?_
            refine lv_istore (lv' := [(11, .int ((-1 : Int32))), (10, .int ((0 : Int32))), (9, .int (v_3)), (8, .int (q_1)), (7, .ref (mad E (254))), (6, .ref (mad E (253))), (5, .ref (mad E (252))), (4, .ref (mad E (248))), (3, .ref (mad E (247))), (2, .ref (mad E (246))), (1, .int (x1)), (0, .ref (mad E (240)))]) hx hb dL_ahead_343 hl (by decide) rfl (fun ls hl => ?_)
            refine lv_iconst (v := (0 : Int32)) hx hb dL_ahead_345 (by decide) ?_
            refine lv_istore (lv' := [(12, .int ((0 : Int32))), (11, .int ((-1 : Int32))), (10, .int ((0 : Int32))), (9, .int (v_3)), (8, .int (q_1)), (7, .ref (mad E (254))), (6, .ref (mad E (253))), (5, .ref (mad E (252))), (4, .ref (mad E (248))), (3, .ref (mad E (247))), (2, .ref (mad E (246))), (1, .int (x1)), (0, .ref (mad E (240)))]) hx hb dL_ahead_346 hl (by decide) rfl (fun ls hl => ?_)
            refine lv_iload hx hb dL_ahead_348 (lv_at hl 4 rfl) ?_
            refine lv_iconst (v := (2 : Int32)) hx hb dL_ahead_350 (by decide) ?_
            refine lv_icmp_ne (tgt := 358) hx hb dL_ahead_351 (by decide) (fun h_60 => ?_) (fun h_60 => ?_)
            · exact absurd h_53 h_60
            · refine lv_iconst (v := (0 : Int32)) hx hb dL_ahead_354 (by decide) ?_
              refine lv_goto (tgt := 359) hx hb dL_ahead_355 (by decide) ?_
              refine lv_istore (lv' := [(13, .int ((0 : Int32))), (12, .int ((0 : Int32))), (11, .int ((-1 : Int32))), (10, .int ((0 : Int32))), (9, .int (v_3)), (8, .int (q_1)), (7, .ref (mad E (254))), (6, .ref (mad E (253))), (5, .ref (mad E (252))), (4, .ref (mad E (248))), (3, .ref (mad E (247))), (2, .ref (mad E (246))), (1, .int (x1)), (0, .ref (mad E (240)))]) hx hb dL_ahead_359 hl (by decide) rfl (fun ls hl => ?_)
              obtain ⟨q_61, h_q_61, hT⟩ := mx_bind hT
              refine kL_ahead_361 X hR hJ ⟨by omega, by omega⟩ hc h2 h3 h4 h5 h6 h7 _ _ _ _ _ _ _ _ _ _ _ _ h_q_61 Z (lv_sub (l' := [(0, .ref (mad E (240))), (2, .ref (mad E (246))), (3, .ref (mad E (247))), (4, .ref (mad E (248))), (5, .ref (mad E (252))), (6, .ref (mad E (253))), (7, .ref (mad E (254))), (8, .int (q_1)), (9, .int (v_3)), (10, .int ((0 : Int32))), (11, .int ((-1 : Int32))), (12, .int ((0 : Int32))), (13, .int ((0 : Int32)))]) hl [13, 11, 10, 9, 8, 7, 6, 5, 4, 3, 2, 1, 0] rfl) (fun H locs ls Z hl => ?_)
              · refine lv_iload hx hb dL_ahead_484 (lv_at hl 7 rfl) ?_
                refine lv_iconst (v := (2 : Int32)) hx hb dL_ahead_486 (by decide) ?_
                refine lv_icmp_ne (tgt := 509) hx hb dL_ahead_487 (by decide) (fun h_62 => ?_) (fun h_62 => ?_)
                · exact absurd h_53 h_62
                · refine lv_aload_n hx hb dL_ahead_490 rfl (lv_at hl 0 rfl) ?_
                  refine lv_iload hx hb dL_ahead_491 (lv_at hl 8 rfl) ?_
                  obtain ⟨q_63, h_q_63, hT⟩ := mx_bind hT
                  refine mx_callV (As := [.int (v_3)]) (rest := []) (st1 := [.int (q_63.1)]) (C := RX5) (T := TX5) (N := 6) (ci := 5) X Z hl.1 (c5_bestRule l E hJ hc _ _ _ h_q_63) wd_23_20 wd_23_21 wd_23_22 wd_1_2 wd_23_23 hd5_bestRule ⟨Nat.le_trans (by decide) hR.1, Nat.le_trans (by decide) hR.2⟩ ⟨by omega, by omega⟩ hc.i (hc.c _) rfl (Nat.le_of_ble_eq_true rfl) rfl rfl dL_ahead_493 (fun H locs Z => ?_)
                  refine lv_iload hx hb dL_ahead_496 (lv_at hl 10 rfl) ?_
                  refine lv_icmp_ne (tgt := 505) hx hb dL_ahead_498 (by decide) (fun h_64 => ?_) (fun h_64 => ?_)
                  · replace hT := mx_f hT h_64
                    refine lv_iconst (v := (0 : Int32)) hx hb dL_ahead_505 (by decide) ?_
                    refine lv_goto (tgt := 527) hx hb dL_ahead_506 (by decide) ?_
                    cases hT
                    exact kk _ _ _ _ Z (Or.inl rfl) dL_ahead_527
                  · replace hT := mx_t hT h_64
                    refine lv_iconst (v := (1 : Int32)) hx hb dL_ahead_501 (by decide) ?_
                    refine lv_goto (tgt := 527) hx hb dL_ahead_502 (by decide) ?_
                    cases hT
                    exact kk _ _ _ _ Z (Or.inr rfl) dL_ahead_527
        · replace hT := mx_t hT h_52
          refine lv_iconst (v := (1 : Int32)) hx hb dL_ahead_318 (by decide) ?_
          cases hT
          exact kk _ _ _ _ Z (Or.inr rfl) dL_ahead_319
    · replace hT := mx_t hT h_5
      refine lv_iconst (v := (1 : Int32)) hx hb dL_ahead_204 (by decide) ?_
      refine lv_iload_n hx hb dL_ahead_205 rfl (lv_at hl 8 rfl) ?_
      refine lv_bipush (v := (9 : Int32)) hx hb dL_ahead_206 (by decide) ?_
      refine lv_ishr hx hb dL_ahead_208 ?_
      refine lv_bipush (v := (120 : Int32)) hx hb dL_ahead_209 (by decide) ?_
      obtain ⟨q_65, h_q_65, hT⟩ := mx_bind hT
      refine mx_callS (As := [.int (x1 >>> ((9 : Int32) &&& 31)), .int ((120 : Int32))]) (rest := [.int ((1 : Int32))]) (st1 := [.int (q_65), .int ((1 : Int32))]) X Z hl.1 (mL_at l E hJ _ _ _ _ h_q_65) wd_17_3 wd_17_4 wd_10_7 wd_17_5 hdL_at ⟨Nat.le_trans (by decide) hR.1, Nat.le_trans (by decide) hR.2⟩ ⟨by omega, by omega⟩ (Nat.le_of_ble_eq_true rfl) rfl rfl dL_ahead_211 (fun H locs Z => ?_)
      refine lv_iadd hx hb dL_ahead_214 ?_
      obtain ⟨v_66, e_v_66, hT⟩ := mx_nm hT
      refine mx_tops (congrArg (fun z => (.int (z) :: [] : List Value)) e_v_66) ?_
      refine lv_istore (lv' := [(10, .int (v_66)), (9, .int (v_3)), (8, .int (q_1)), (7, .ref (mad E (254))), (6, .ref (mad E (253))), (5, .ref (mad E (252))), (4, .ref (mad E (248))), (3, .ref (mad E (247))), (2, .ref (mad E (246))), (1, .int (x1)), (0, .ref (mad E (240)))]) hx hb dL_ahead_215 hl (by decide) rfl (fun ls hl => ?_)
      refine lv_iconst (v := (0 : Int32)) hx hb dL_ahead_217 (by decide) ?_
      refine lv_istore (lv' := [(11, .int ((0 : Int32))), (10, .int (v_66)), (9, .int (v_3)), (8, .int (q_1)), (7, .ref (mad E (254))), (6, .ref (mad E (253))), (5, .ref (mad E (252))), (4, .ref (mad E (248))), (3, .ref (mad E (247))), (2, .ref (mad E (246))), (1, .int (x1)), (0, .ref (mad E (240)))]) hx hb dL_ahead_218 hl (by decide) rfl (fun ls hl => ?_)
      refine lv_aload_n hx hb dL_ahead_220 rfl (lv_at hl 9 rfl) ?_
      refine lv_aload hx hb dL_ahead_221 (lv_at hl 6 rfl) ?_
      obtain ⟨q_67, h_q_67, hT⟩ := mx_bind hT
      refine mx_callS (As := [.ref (mad E (246)), .ref (mad E (252))]) (rest := []) (st1 := []) X Z hl.1 (mL_copy l E hJ h2 h5 _ _ h_q_67) wd_17_0 wd_17_1 wd_10_7 wd_17_2 hdL_copy ⟨Nat.le_trans (by decide) hR.1, Nat.le_trans (by decide) hR.2⟩ ⟨by omega, by omega⟩ (Nat.le_of_ble_eq_true rfl) rfl rfl dL_ahead_223 (fun H locs Z => ?_)
      refine lv_aload_n hx hb dL_ahead_226 rfl (lv_at hl 8 rfl) ?_
      refine lv_aload hx hb dL_ahead_227 (lv_at hl 5 rfl) ?_
      obtain ⟨q_68, h_q_68, hT⟩ := mx_bind hT
      refine mx_callS (As := [.ref (mad E (247)), .ref (mad E (253))]) (rest := []) (st1 := []) X Z hl.1 (mL_copy l E hJ h3 h6 _ _ h_q_68) wd_17_0 wd_17_1 wd_10_7 wd_17_2 hdL_copy ⟨Nat.le_trans (by decide) hR.1, Nat.le_trans (by decide) hR.2⟩ ⟨by omega, by omega⟩ (Nat.le_of_ble_eq_true rfl) rfl rfl dL_ahead_229 (fun H locs Z => ?_)
      refine lv_aload hx hb dL_ahead_232 (lv_at hl 7 rfl) ?_
      refine lv_aload hx hb dL_ahead_234 (lv_at hl 4 rfl) ?_
      obtain ⟨q_69, h_q_69, hT⟩ := mx_bind hT
      refine mx_callS (As := [.ref (mad E (248)), .ref (mad E (254))]) (rest := []) (st1 := []) X Z hl.1 (mL_copy l E hJ h4 h7 _ _ h_q_69) wd_17_0 wd_17_1 wd_10_7 wd_17_2 hdL_copy ⟨Nat.le_trans (by decide) hR.1, Nat.le_trans (by decide) hR.2⟩ ⟨by omega, by omega⟩ (Nat.le_of_ble_eq_true rfl) rfl rfl dL_ahead_236 (fun H locs Z => ?_)
      obtain ⟨q_74, h_q_74, hT⟩ := mx_bind hT
      refine kL_ahead_239 X hR hJ ⟨by omega, by omega⟩ hc h2 h5 h6 h7 _ _ _ _ _ _ _ _ h_q_74 Z (lv_sub (l' := [(0, .ref (mad E (240))), (2, .ref (mad E (246))), (5, .ref (mad E (252))), (6, .ref (mad E (253))), (7, .ref (mad E (254))), (10, .int (v_66)), (11, .int ((0 : Int32)))]) hl [11, 9, 6, 5, 4, 1, 0] rfl) (fun H locs ls Z hl => ?_)
      · refine lv_aload_n hx hb dL_ahead_277 rfl (lv_at hl 0 rfl) ?_
        refine lv_iload hx hb dL_ahead_278 (lv_at hl 5 rfl) ?_
        obtain ⟨q_75, h_q_75, hT⟩ := mx_bind hT
        refine mx_callV (As := [.int (v_66)]) (rest := []) (st1 := [.int (q_75.1)]) (C := RX5) (T := TX5) (N := 6) (ci := 5) X Z hl.1 (c5_ticksFor l E hJ hc _ _ _ h_q_75) wd_23_15 wd_23_16 wd_23_17 wd_1_2 wd_23_18 hd5_ticksFor ⟨Nat.le_trans (by decide) hR.1, Nat.le_trans (by decide) hR.2⟩ ⟨by omega, by omega⟩ hc.i (hc.c _) rfl (Nat.le_of_ble_eq_true rfl) rfl rfl dL_ahead_280 (fun H locs Z => ?_)
        refine lv_iload hx hb dL_ahead_283 (lv_at hl 6 rfl) ?_
        refine lv_sipush (v := (500 : Int32)) hx hb dL_ahead_285 (by decide) ?_
        refine lv_icmp_le (tgt := 295) hx hb dL_ahead_288 (by decide) (fun h_76 => ?_) (fun h_76 => ?_)
        · replace hT := mx_t hT h_76
          refine lv_iload hx hb dL_ahead_295 (lv_at hl 6 rfl) ?_
          refine lv_icmp_ne (tgt := 304) hx hb dL_ahead_297 (by decide) (fun h_77 => ?_) (fun h_77 => ?_)
          · replace hT := mx_f hT h_77
            refine lv_iconst (v := (0 : Int32)) hx hb dL_ahead_304 (by decide) ?_
            cases hT
            exact kk _ _ _ _ Z (Or.inl rfl) dL_ahead_305
          · replace hT := mx_t hT h_77
            refine lv_iconst (v := (1 : Int32)) hx hb dL_ahead_300 (by decide) ?_
            refine lv_goto (tgt := 305) hx hb dL_ahead_301 (by decide) ?_
            cases hT
            exact kk _ _ _ _ Z (Or.inr rfl) dL_ahead_305
        · replace hT := mx_f hT h_76
          refine lv_iconst (v := (-1 : Int32)) hx hb dL_ahead_291 (by decide) ?_
          refine lv_goto (tgt := 297) hx hb dL_ahead_292 (by decide) ?_
          refine lv_icmp_ne (tgt := 304) hx hb dL_ahead_297 (by decide) (fun h_78 => ?_) (fun h_78 => ?_)
          · replace hT := mx_f hT h_78
            refine lv_iconst (v := (0 : Int32)) hx hb dL_ahead_304 (by decide) ?_
            cases hT
            exact kk _ _ _ _ Z (Or.inl rfl) dL_ahead_305
          · replace hT := mx_t hT h_78
            refine lv_iconst (v := (1 : Int32)) hx hb dL_ahead_300 (by decide) ?_
            refine lv_goto (tgt := 305) hx hb dL_ahead_301 (by decide) ?_
            cases hT
            exact kk _ _ _ _ Z (Or.inr rfl) dL_ahead_305
  · replace hT := mx_t hT h_4
    refine lv_iconst (v := (0 : Int32)) hx hb dL_ahead_42 (by decide) ?_
    refine lv_istore (lv' := [(10, .int ((0 : Int32))), (9, .int (v_3)), (8, .int (q_1)), (7, .ref (mad E (254))), (6, .ref (mad E (253))), (5, .ref (mad E (252))), (4, .ref (mad E (248))), (3, .ref (mad E (247))), (2, .ref (mad E (246))), (1, .int (x1)), (0, .ref (mad E (240)))]) hx hb dL_ahead_43 hl (by decide) rfl (fun ls hl => ?_)
    refine lv_aload_n hx hb dL_ahead_45 rfl (lv_at hl 8 rfl) ?_
    refine lv_aload hx hb dL_ahead_46 (lv_at hl 5 rfl) ?_
    obtain ⟨q_79, h_q_79, hT⟩ := mx_bind hT
    refine mx_callS (As := [.ref (mad E (246)), .ref (mad E (252))]) (rest := []) (st1 := []) X Z hl.1 (mL_copy l E hJ h2 h5 _ _ h_q_79) wd_17_0 wd_17_1 wd_10_7 wd_17_2 hdL_copy ⟨Nat.le_trans (by decide) hR.1, Nat.le_trans (by decide) hR.2⟩ ⟨by omega, by omega⟩ (Nat.le_of_ble_eq_true rfl) rfl rfl dL_ahead_48 (fun H locs Z => ?_)
    refine lv_aload_n hx hb dL_ahead_51 rfl (lv_at hl 7 rfl) ?_
    refine lv_aload hx hb dL_ahead_52 (lv_at hl 4 rfl) ?_
    obtain ⟨q_80, h_q_80, hT⟩ := mx_bind hT
    refine mx_callS (As := [.ref (mad E (247)), .ref (mad E (253))]) (rest := []) (st1 := []) X Z hl.1 (mL_copy l E hJ h3 h6 _ _ h_q_80) wd_17_0 wd_17_1 wd_10_7 wd_17_2 hdL_copy ⟨Nat.le_trans (by decide) hR.1, Nat.le_trans (by decide) hR.2⟩ ⟨by omega, by omega⟩ (Nat.le_of_ble_eq_true rfl) rfl rfl dL_ahead_54 (fun H locs Z => ?_)
    refine lv_aload hx hb dL_ahead_57 (lv_at hl 6 rfl) ?_
    refine lv_aload hx hb dL_ahead_59 (lv_at hl 3 rfl) ?_
    obtain ⟨q_81, h_q_81, hT⟩ := mx_bind hT
    refine mx_callS (As := [.ref (mad E (248)), .ref (mad E (254))]) (rest := []) (st1 := []) X Z hl.1 (mL_copy l E hJ h4 h7 _ _ h_q_81) wd_17_0 wd_17_1 wd_10_7 wd_17_2 hdL_copy ⟨Nat.le_trans (by decide) hR.1, Nat.le_trans (by decide) hR.2⟩ ⟨by omega, by omega⟩ (Nat.le_of_ble_eq_true rfl) rfl rfl dL_ahead_61 (fun H locs Z => ?_)
    refine lv_iconst (v := (0 : Int32)) hx hb dL_ahead_64 (by decide) ?_
    refine lv_istore (lv' := [(11, .int ((0 : Int32))), (10, .int ((0 : Int32))), (9, .int (v_3)), (8, .int (q_1)), (7, .ref (mad E (254))), (6, .ref (mad E (253))), (5, .ref (mad E (252))), (4, .ref (mad E (248))), (3, .ref (mad E (247))), (2, .ref (mad E (246))), (1, .int (x1)), (0, .ref (mad E (240)))]) hx hb dL_ahead_65 hl (by decide) rfl (fun ls hl => ?_)
    obtain ⟨q_89, h_q_89, hT⟩ := mx_bind hT
    refine kL_ahead_67 X hR hJ ⟨by omega, by omega⟩ hc h2 h4 h5 h6 h7 _ _ _ _ _ _ _ _ _ h_q_89 Z (lv_sub (l' := [(0, .ref (mad E (240))), (2, .ref (mad E (246))), (4, .ref (mad E (248))), (5, .ref (mad E (252))), (6, .ref (mad E (253))), (7, .ref (mad E (254))), (9, .int (v_3)), (10, .int ((0 : Int32))), (11, .int ((0 : Int32)))]) hl [11, 9, 7, 6, 5, 4, 2, 1, 0] rfl) (fun H locs ls Z hl => ?_)
    · refine lv_aload_n hx hb dL_ahead_115 rfl (lv_at hl 0 rfl) ?_
      refine lv_iload hx hb dL_ahead_116 (lv_at hl 6 rfl) ?_
      refine lv_iconst (v := (0 : Int32)) hx hb dL_ahead_118 (by decide) ?_
      obtain ⟨q_90, h_q_90, hT⟩ := mx_bind hT
      refine mx_callV (As := [.int (v_3), .int ((0 : Int32))]) (rest := []) (st1 := [.int (q_90.1)]) (C := RX5) (T := TX5) (N := 6) (ci := 5) X Z hl.1 (c5_ifRun l E hJ hc _ _ _ _ h_q_90) wd_23_6 wd_23_7 wd_23_8 wd_1_2 wd_23_9 hd5_ifRun ⟨Nat.le_trans (by decide) hR.1, Nat.le_trans (by decide) hR.2⟩ ⟨by omega, by omega⟩ hc.i (hc.c _) rfl (Nat.le_of_ble_eq_true rfl) rfl rfl dL_ahead_119 (fun H locs Z => ?_)
      refine lv_aload hx hb dL_ahead_122 (lv_at hl 3 rfl) ?_
      refine lv_bipush (v := (7 : Int32)) hx hb dL_ahead_124 (by decide) ?_
      refine mx_iald X Z h5 (mx_lit (by decide)) dL_ahead_126 ?_
      refine mx_tops (s2 := [.int (q_90.2 252 7), .int (q_90.1)]) rfl ?_
      refine lv_aload_n hx hb dL_ahead_127 rfl (lv_at hl 1 rfl) ?_
      refine lv_bipush (v := (7 : Int32)) hx hb dL_ahead_128 (by decide) ?_
      refine mx_iald X Z h2 (mx_lit (by decide)) dL_ahead_130 ?_
      refine mx_tops (s2 := [.int (q_90.2 246 7), .int (q_90.2 252 7), .int (q_90.1)]) rfl ?_
      refine lv_isub hx hb dL_ahead_131 ?_
      refine lv_icmp_ne (tgt := 196) hx hb dL_ahead_132 (by decide) (fun h_91 => ?_) (fun h_91 => ?_)
      · replace hT := mx_f hT h_91
        refine lv_iconst (v := (0 : Int32)) hx hb dL_ahead_196 (by decide) ?_
        cases hT
        exact kk _ _ _ _ Z (Or.inl rfl) dL_ahead_197
      · replace hT := mx_t hT h_91
        refine lv_aload_n hx hb dL_ahead_135 rfl (lv_at hl 0 rfl) ?_
        refine lv_iload hx hb dL_ahead_136 (lv_at hl 6 rfl) ?_
        refine lv_iconst (v := (1 : Int32)) hx hb dL_ahead_138 (by decide) ?_
        obtain ⟨q_92, h_q_92, hT⟩ := mx_bind hT
        refine mx_callV (As := [.int (v_3), .int ((1 : Int32))]) (rest := []) (st1 := [.int (q_92.1)]) (C := RX5) (T := TX5) (N := 6) (ci := 5) X Z hl.1 (c5_ifRun l E hJ hc _ _ _ _ h_q_92) wd_23_6 wd_23_7 wd_23_8 wd_1_2 wd_23_9 hd5_ifRun ⟨Nat.le_trans (by decide) hR.1, Nat.le_trans (by decide) hR.2⟩ ⟨by omega, by omega⟩ hc.i (hc.c _) rfl (Nat.le_of_ble_eq_true rfl) rfl rfl dL_ahead_139 (fun H locs Z => ?_)
        refine lv_aload hx hb dL_ahead_142 (lv_at hl 3 rfl) ?_
        refine lv_aload hx hb dL_ahead_144 (lv_at hl 4 rfl) ?_
        obtain ⟨q_93, h_q_93, hT⟩ := mx_bind hT
        refine mx_callS (As := [.ref (mad E (252)), .ref (mad E (253))]) (rest := [.int (q_92.1)]) (st1 := [.int (q_93), .int (q_92.1)]) X Z hl.1 (mL_sunk l E hJ h5 h6 _ _ h_q_93) wd_16_9 wd_16_10 wd_10_7 wd_16_11 hdL_sunk ⟨Nat.le_trans (by decide) hR.1, Nat.le_trans (by decide) hR.2⟩ ⟨by omega, by omega⟩ (Nat.le_of_ble_eq_true rfl) rfl rfl dL_ahead_146 (fun H locs Z => ?_)
        refine lv_icmp_ne (tgt := 196) hx hb dL_ahead_149 (by decide) (fun h_94 => ?_) (fun h_94 => ?_)
        · replace hT := mx_f hT h_94
          refine lv_iconst (v := (0 : Int32)) hx hb dL_ahead_196 (by decide) ?_
          cases hT
          exact kk _ _ _ _ Z (Or.inl rfl) dL_ahead_197
        · replace hT := mx_t hT h_94
          refine lv_aload_n hx hb dL_ahead_152 rfl (lv_at hl 0 rfl) ?_
          refine lv_iload hx hb dL_ahead_153 (lv_at hl 6 rfl) ?_
          refine lv_iconst (v := (2 : Int32)) hx hb dL_ahead_155 (by decide) ?_
          obtain ⟨q_95, h_q_95, hT⟩ := mx_bind hT
          refine mx_callV (As := [.int (v_3), .int ((2 : Int32))]) (rest := []) (st1 := [.int (q_95.1)]) (C := RX5) (T := TX5) (N := 6) (ci := 5) X Z hl.1 (c5_ifRun l E hJ hc _ _ _ _ h_q_95) wd_23_6 wd_23_7 wd_23_8 wd_1_2 wd_23_9 hd5_ifRun ⟨Nat.le_trans (by decide) hR.1, Nat.le_trans (by decide) hR.2⟩ ⟨by omega, by omega⟩ hc.i (hc.c _) rfl (Nat.le_of_ble_eq_true rfl) rfl rfl dL_ahead_156 (fun H locs Z => ?_)
          refine lv_bipush (v := (7 : Int32)) hx hb dL_ahead_159 (by decide) ?_
          refine lv_aload hx hb dL_ahead_161 (lv_at hl 3 rfl) ?_
          refine lv_aload hx hb dL_ahead_163 (lv_at hl 5 rfl) ?_
          obtain ⟨q_96, h_q_96, hT⟩ := mx_bind hT
          refine mx_callS (As := [.int ((7 : Int32)), .ref (mad E (252)), .ref (mad E (254))]) (rest := [.int (q_95.1)]) (st1 := [.int (q_96), .int (q_95.1)]) X Z hl.1 (mL_sum l E hJ h5 h7 _ _ _ h_q_96) wd_15_7 wd_15_8 wd_10_7 wd_15_9 hdL_sum ⟨Nat.le_trans (by decide) hR.1, Nat.le_trans (by decide) hR.2⟩ ⟨by omega, by omega⟩ (Nat.le_of_ble_eq_true rfl) rfl rfl dL_ahead_165 (fun H locs Z => ?_)
          refine lv_bipush (v := (7 : Int32)) hx hb dL_ahead_168 (by decide) ?_
          refine lv_aload_n hx hb dL_ahead_170 rfl (lv_at hl 1 rfl) ?_
          refine lv_aload hx hb dL_ahead_171 (lv_at hl 2 rfl) ?_
          obtain ⟨q_97, h_q_97, hT⟩ := mx_bind hT
          refine mx_callS (As := [.int ((7 : Int32)), .ref (mad E (246)), .ref (mad E (248))]) (rest := [.int (q_96), .int (q_95.1)]) (st1 := [.int (q_97), .int (q_96), .int (q_95.1)]) X Z hl.1 (mL_sum l E hJ h2 h4 _ _ _ h_q_97) wd_15_7 wd_15_8 wd_10_7 wd_15_9 hdL_sum ⟨Nat.le_trans (by decide) hR.1, Nat.le_trans (by decide) hR.2⟩ ⟨by omega, by omega⟩ (Nat.le_of_ble_eq_true rfl) rfl rfl dL_ahead_173 (fun H locs Z => ?_)
          refine lv_isub hx hb dL_ahead_176 ?_
          refine lv_icmp_ne (tgt := 196) hx hb dL_ahead_177 (by decide) (fun h_98 => ?_) (fun h_98 => ?_)
          · replace hT := mx_f hT h_98
            refine lv_iconst (v := (0 : Int32)) hx hb dL_ahead_196 (by decide) ?_
            cases hT
            exact kk _ _ _ _ Z (Or.inl rfl) dL_ahead_197
          · replace hT := mx_t hT h_98
            refine lv_aload_n hx hb dL_ahead_180 rfl (lv_at hl 0 rfl) ?_
            refine lv_iload hx hb dL_ahead_181 (lv_at hl 6 rfl) ?_
            refine lv_iconst (v := (3 : Int32)) hx hb dL_ahead_183 (by decide) ?_
            obtain ⟨q_99, h_q_99, hT⟩ := mx_bind hT
            refine mx_callV (As := [.int (v_3), .int ((3 : Int32))]) (rest := []) (st1 := [.int (q_99.1)]) (C := RX5) (T := TX5) (N := 6) (ci := 5) X Z hl.1 (c5_ifRun l E hJ hc _ _ _ _ h_q_99) wd_23_6 wd_23_7 wd_23_8 wd_1_2 wd_23_9 hd5_ifRun ⟨Nat.le_trans (by decide) hR.1, Nat.le_trans (by decide) hR.2⟩ ⟨by omega, by omega⟩ hc.i (hc.c _) rfl (Nat.le_of_ble_eq_true rfl) rfl rfl dL_ahead_184 (fun H locs Z => ?_)
            refine lv_iload hx hb dL_ahead_187 (lv_at hl 7 rfl) ?_
            refine lv_icmp_ne (tgt := 196) hx hb dL_ahead_189 (by decide) (fun h_100 => ?_) (fun h_100 => ?_)
            · replace hT := mx_f hT h_100
              refine lv_iconst (v := (0 : Int32)) hx hb dL_ahead_196 (by decide) ?_
              cases hT
              exact kk _ _ _ _ Z (Or.inl rfl) dL_ahead_197
            · replace hT := mx_t hT h_100
              refine lv_iconst (v := (1 : Int32)) hx hb dL_ahead_192 (by decide) ?_
              refine lv_goto (tgt := 197) hx hb dL_ahead_193 (by decide) ?_
              cases hT
              exact kk _ _ _ _ Z (Or.inr rfl) dL_ahead_197
