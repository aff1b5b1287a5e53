/-! PeatRailwayModel.digest -/
def x6_digest_L9 : Nat → Int32 → mM → Option (mM)
  | 0, _, _ => none
  | n + 1, w1, G =>
    if ((8 : Int32)) ≤ w1 then
      some (G)
    else
      (x6_counted w1 G).bind fun q_3 =>
      (x6_mix q_3.toInt64 G).bind fun q_4 =>
      mNm (w1 + (1 : Int32)) fun v_5 =>
      x6_digest_L9 n v_5 q_4
def x6_digest_L33 : Nat → Int32 → mM → Option (mM)
  | 0, _, _ => none
  | n + 1, w1, G =>
    if ((3 : Int32)) ≤ w1 then
      some (G)
    else
      (x6_other w1 G).bind fun q_8 =>
      (x6_mix q_8.toInt64 G).bind fun q_9 =>
      mNm (w1 + (1 : Int32)) fun v_10 =>
      x6_digest_L33 n v_10 q_9
def x6_digest_L56 : Nat → Int32 → mM → Option (mM)
  | 0, _, _ => none
  | n + 1, w1, G =>
    if ((5 : Int32)) ≤ w1 then
      some (G)
    else
      (x6_accountNow w1 G).bind fun q_13 =>
      (x6_mix q_13.toInt64 G).bind fun q_14 =>
      mNm (w1 + (1 : Int32)) fun v_15 =>
      x6_digest_L56 n v_15 q_14
def x6_digest_L79 : Nat → Int32 → mM → Option (mM)
  | 0, _, _ => none
  | n + 1, w1, G =>
    if (((7 : Int32)) * (G 247 72)) ≤ w1 then
      some (G)
    else
      (x6_segmentNow (w1 / ((7 : Int32))) (w1 - w1 / ((7 : Int32)) * ((7 : Int32))) G).bind fun q_18 =>
      (x6_mix q_18.toInt64 G).bind fun q_19 =>
      mNm (w1 + (1 : Int32)) fun v_20 =>
      x6_digest_L79 n v_20 q_19
def x6_digest_L131 (y1 : Int32) : Nat → Int32 → mM → Option (mM)
  | 0, _, _ => none
  | n + 1, w2, G =>
    if ((10 : Int32)) ≤ w2 then
      some (G)
    else
      (x6_trainNow y1 w2 G).bind fun q_24 =>
      (x6_mix q_24.toInt64 G).bind fun q_25 =>
      mNm (w2 + (1 : Int32)) fun v_26 =>
      x6_digest_L131 y1 n v_26 q_25
def x6_digest_L118 : Nat → Int32 → mM → Option (mM)
  | 0, _, _ => none
  | n + 1, w1, G =>
    if (G 247 73) ≤ w1 then
      some (G)
    else
      (x6_digest_L131 w1 mFu ((0 : Int32)) G).bind fun q_27 =>
      (x6_reason w1 q_27).bind fun q_28 =>
      (x6_mix q_28.toInt64 q_27).bind fun q_29 =>
      mNm (w1 + (1 : Int32)) fun v_30 =>
      x6_digest_L118 n v_30 q_29
def x6_digest_L172 : Nat → Int32 → mM → Option (mM)
  | 0, _, _ => none
  | n + 1, w1, G =>
    if ((4 : Int32)) ≤ w1 then
      some (G)
    else
      (x6_ahead ((50 : Int32)) w1 G).bind fun q_33 =>
      (x6_mix q_33.1.toInt64 q_33.2).bind fun q_34 =>
      mNm (w1 + (1 : Int32)) fun v_35 =>
      x6_digest_L172 n v_35 q_34
def x6_digest_L217 : Nat → Int32 → mM → Option (mM)
  | 0, _, _ => none
  | n + 1, w1, G =>
    if (G 246 6) ≤ w1 then
      some (G)
    else
      mCk (mIn w1 40) <|
      (x6_mix ((G 251 w1.toNatClampNeg).toInt64) G).bind fun q_43 =>
      mNm (w1 + (1 : Int32)) fun v_44 =>
      x6_digest_L217 n v_44 q_43
def x6_digest (G : mM) : Option (Int64 × mM) :=
  mNm (upL G 246 ((2069 : Int64))) fun G_1 =>
  (x6_digest_L9 mFu ((0 : Int32)) G_1).bind fun q_6 =>
  (x6_digest_L33 mFu ((0 : Int32)) q_6).bind fun q_11 =>
  (x6_digest_L56 mFu ((0 : Int32)) q_11).bind fun q_16 =>
  (x6_digest_L79 mFu ((0 : Int32)) q_16).bind fun q_21 =>
  (x6_digest_L118 mFu ((0 : Int32)) q_21).bind fun q_31 =>
  (x6_digest_L172 mFu ((0 : Int32)) q_31).bind fun q_36 =>
  (x6_meanSinking q_36).bind fun q_37 =>
  mCk (Op.cmpValue (FP.dcmp q_37 q_37) .l = 0) <|
  (x6_mix q_37.toInt64 q_36).bind fun q_39 =>
  (x6_mix ((q_39 246 6).toInt64) q_39).bind fun q_40 =>
  (x6_digest_L217 mFu ((0 : Int32)) q_40).bind fun q_45 =>
  some (mLong (q_45 246 10) (q_45 246 11), q_45)
theorem hd6_digest : yX6_digest.cls = RX6 ∧ yX6_digest.cls ≠ "java/lang/invoke/MethodHandle" ∧ yX6_digest.cls ≠ "java/lang/invoke/VarHandle" ∧ (parseMethodDescriptor yX6_digest.desc).map (fun d => d.parameters.length) = some 0 := by decide +kernel
set_option maxHeartbeats 4000000 in
set_option maxRecDepth 100000 in
theorem k6_digest_9 {p : Program} {l : Launch} {e : Env} {R : Room} {s : State} {m : MethodId} {args : Array Value} {below : List Frame} {meth : Method} {cd : Code} {Q : State → Prop} {E : mE} (X : mX p s m args cd cX6_digest 3 RX6 E) (hR : 7 ≤ R.frames ∧ 165 ≤ R.locals) (hJ : mJ E) (hy0 : mMo E 246) : ∀ (n : Nat) (w1 : Int32) (G : mM) (H : Heap) (locs : List Loc) (ls : Array Slot) (r : mM), x6_digest_L9 n w1 G = some r → mZ E s.heap H locs G → lv_has ls 3 [(0, .ref (mad E (246))), (1, .int (w1))] → (∀ (H : Heap) (locs : List Loc) (ls : Array Slot), mZ E s.heap H locs r → lv_has ls 3 [(0, .ref (mad E (246)))] → W p l e R s m args below meth cd H locs 0 0 Q (F0 m 31 ls [])) → W p l e R s m args below meth cd H locs 0 0 Q (F0 m 9 ls []) := by
  have hx := X.1
  have hb := X.2.1
  have hown := X.2.2.2.1
  have hts := X.2.2.2.2.1
  intro n
  induction n with
  | zero =>
    intro w1 G H locs ls r hT
    rw [x6_digest_L9] at hT
    cases hT
  | succ n ih =>
    intro w1 G H locs ls r hT Z hl k0
    rw [x6_digest_L9] at hT
    refine lv_iload_n hx hb dX6_digest_9 rfl (lv_at hl 1 rfl) ?_
    refine lv_bipush (v := (8 : Int32)) hx hb dX6_digest_10 (by decide) ?_
    refine lv_icmp_ge (tgt := 31) hx hb dX6_digest_12 (by decide) (fun h_2 => ?_) (fun h_2 => ?_)
    · replace hT := mx_t hT h_2
      cases hT
      exact k0 _ _ _ Z (lv_sub hl [0] rfl)
    · replace hT := mx_f hT h_2
      refine lv_aload_n hx hb dX6_digest_15 rfl (lv_at hl 0 rfl) ?_
      refine lv_aload_n hx hb dX6_digest_16 rfl (lv_at hl 0 rfl) ?_
      refine lv_iload_n hx hb dX6_digest_17 rfl (lv_at hl 1 rfl) ?_
      obtain ⟨q_3, h_q_3, hT⟩ := mx_bind hT
      refine mx_callV (As := [.int (w1)]) (rest := [.ref (mad E (246))]) (st1 := [.int (q_3), .ref (mad E (246))]) (C := RX6) (T := TX6) (N := 11) (ci := 6) X Z hl.1 (c6_counted l E hJ hy0 _ _ _ h_q_3) wd_29_8 wd_29_9 wd_29_10 wd_1_5 wd_29_11 hd6_counted ⟨Nat.le_trans (by decide) hR.1, Nat.le_trans (by decide) hR.2⟩ ⟨Nat.zero_le _, Nat.zero_le _⟩ hy0.i (hy0.c _) rfl (Nat.le_of_ble_eq_true rfl) rfl rfl dX6_digest_18 (fun H locs Z => ?_)
      refine lv_i2l (v := q_3.toInt64) hx hb dX6_digest_21 rfl ?_
      obtain ⟨q_4, h_q_4, hT⟩ := mx_bind hT
      refine mx_callV (As := [.long (q_3.toInt64)]) (rest := []) (st1 := []) (C := RX6) (T := TX6) (N := 11) (ci := 6) X Z hl.1 (c6_mix l E hJ hy0 _ _ _ h_q_4) wd_34_11 wd_34_12 wd_34_13 wd_1_5 wd_34_14 hd6_mix ⟨Nat.le_trans (by decide) hR.1, Nat.le_trans (by decide) hR.2⟩ ⟨Nat.zero_le _, Nat.zero_le _⟩ hy0.i (hy0.c _) rfl (Nat.le_of_ble_eq_true rfl) rfl rfl dX6_digest_22 (fun H locs Z => ?_)
      obtain ⟨v_5, e_v_5, hT⟩ := mx_nm hT
      refine lv_iinc (v := v_5) (lv' := [(1, .int (v_5)), (0, .ref (mad E (246)))]) hx hb dX6_digest_25 hl (k := 1) rfl (by rw [← e_v_5]; rfl) (by decide) rfl (fun ls hl => ?_)
      refine lv_goto (tgt := 9) hx hb dX6_digest_28 (by decide) ?_
      exact ih _ _ _ _ _ _ hT Z (lv_sub hl [1, 0] rfl) k0
set_option maxHeartbeats 4000000 in
set_option maxRecDepth 100000 in
theorem k6_digest_33 {p : Program} {l : Launch} {e : Env} {R : Room} {s : State} {m : MethodId} {args : Array Value} {below : List Frame} {meth : Method} {cd : Code} {Q : State → Prop} {E : mE} (X : mX p s m args cd cX6_digest 3 RX6 E) (hR : 7 ≤ R.frames ∧ 165 ≤ R.locals) (hJ : mJ E) (hy0 : mMo E 246) : ∀ (n : Nat) (w1 : Int32) (G : mM) (H : Heap) (locs : List Loc) (ls : Array Slot) (r : mM), x6_digest_L33 n w1 G = some r → mZ E s.heap H locs G → lv_has ls 3 [(0, .ref (mad E (246))), (1, .int (w1))] → (∀ (H : Heap) (locs : List Loc) (ls : Array Slot), mZ E s.heap H locs r → lv_has ls 3 [(0, .ref (mad E (246)))] → W p l e R s m args below meth cd H locs 0 0 Q (F0 m 54 ls [])) → W p l e R s m args below meth cd H locs 0 0 Q (F0 m 33 ls []) := by
  have hx := X.1
  have hb := X.2.1
  have hown := X.2.2.2.1
  have hts := X.2.2.2.2.1
  intro n
  induction n with
  | zero =>
    intro w1 G H locs ls r hT
    rw [x6_digest_L33] at hT
    cases hT
  | succ n ih =>
    intro w1 G H locs ls r hT Z hl k0
    rw [x6_digest_L33] at hT
    refine lv_iload_n hx hb dX6_digest_33 rfl (lv_at hl 1 rfl) ?_
    refine lv_iconst (v := (3 : Int32)) hx hb dX6_digest_34 (by decide) ?_
    refine lv_icmp_ge (tgt := 54) hx hb dX6_digest_35 (by decide) (fun h_7 => ?_) (fun h_7 => ?_)
    · replace hT := mx_t hT h_7
      cases hT
      exact k0 _ _ _ Z (lv_sub hl [0] rfl)
    · replace hT := mx_f hT h_7
      refine lv_aload_n hx hb dX6_digest_38 rfl (lv_at hl 0 rfl) ?_
      refine lv_aload_n hx hb dX6_digest_39 rfl (lv_at hl 0 rfl) ?_
      refine lv_iload_n hx hb dX6_digest_40 rfl (lv_at hl 1 rfl) ?_
      obtain ⟨q_8, h_q_8, hT⟩ := mx_bind hT
      refine mx_callV (As := [.int (w1)]) (rest := [.ref (mad E (246))]) (st1 := [.int (q_8), .ref (mad E (246))]) (C := RX6) (T := TX6) (N := 11) (ci := 6) X Z hl.1 (c6_other l E hJ hy0 _ _ _ h_q_8) wd_14_8 wd_14_9 wd_14_10 wd_1_5 wd_14_11 hd6_other ⟨Nat.le_trans (by decide) hR.1, Nat.le_trans (by decide) hR.2⟩ ⟨Nat.zero_le _, Nat.zero_le _⟩ hy0.i (hy0.c _) rfl (Nat.le_of_ble_eq_true rfl) rfl rfl dX6_digest_41 (fun H locs Z => ?_)
      refine lv_i2l (v := q_8.toInt64) hx hb dX6_digest_44 rfl ?_
      obtain ⟨q_9, h_q_9, hT⟩ := mx_bind hT
      refine mx_callV (As := [.long (q_8.toInt64)]) (rest := []) (st1 := []) (C := RX6) (T := TX6) (N := 11) (ci := 6) X Z hl.1 (c6_mix l E hJ hy0 _ _ _ h_q_9) wd_34_11 wd_34_12 wd_34_13 wd_1_5 wd_34_14 hd6_mix ⟨Nat.le_trans (by decide) hR.1, Nat.le_trans (by decide) hR.2⟩ ⟨Nat.zero_le _, Nat.zero_le _⟩ hy0.i (hy0.c _) rfl (Nat.le_of_ble_eq_true rfl) rfl rfl dX6_digest_45 (fun H locs Z => ?_)
      obtain ⟨v_10, e_v_10, hT⟩ := mx_nm hT
      refine lv_iinc (v := v_10) (lv' := [(1, .int (v_10)), (0, .ref (mad E (246)))]) hx hb dX6_digest_48 hl (k := 1) rfl (by rw [← e_v_10]; rfl) (by decide) rfl (fun ls hl => ?_)
      refine lv_goto (tgt := 33) hx hb dX6_digest_51 (by decide) ?_
      exact ih _ _ _ _ _ _ hT Z (lv_sub hl [1, 0] rfl) k0
set_option maxHeartbeats 4000000 in
set_option maxRecDepth 100000 in
theorem k6_digest_56 {p : Program} {l : Launch} {e : Env} {R : Room} {s : State} {m : MethodId} {args : Array Value} {below : List Frame} {meth : Method} {cd : Code} {Q : State → Prop} {E : mE} (X : mX p s m args cd cX6_digest 3 RX6 E) (hR : 7 ≤ R.frames ∧ 165 ≤ R.locals) (hJ : mJ E) (hy0 : mMo E 246) : ∀ (n : Nat) (w1 : Int32) (G : mM) (H : Heap) (locs : List Loc) (ls : Array Slot) (r : mM), x6_digest_L56 n w1 G = some r → mZ E s.heap H locs G → lv_has ls 3 [(0, .ref (mad E (246))), (1, .int (w1))] → (∀ (H : Heap) (locs : List Loc) (ls : Array Slot), mZ E s.heap H locs r → lv_has ls 3 [(0, .ref (mad E (246)))] → W p l e R s m args below meth cd H locs 0 0 Q (F0 m 77 ls [])) → W p l e R s m args below meth cd H locs 0 0 Q (F0 m 56 ls []) := by
  have hx := X.1
  have hb := X.2.1
  have hown := X.2.2.2.1
  have hts := X.2.2.2.2.1
  intro n
  induction n with
  | zero =>
    intro w1 G H locs ls r hT
    rw [x6_digest_L56] at hT
    cases hT
  | succ n ih =>
    intro w1 G H locs ls r hT Z hl k0
    rw [x6_digest_L56] at hT
    refine lv_iload_n hx hb dX6_digest_56 rfl (lv_at hl 1 rfl) ?_
    refine lv_iconst (v := (5 : Int32)) hx hb dX6_digest_57 (by decide) ?_
    refine lv_icmp_ge (tgt := 77) hx hb dX6_digest_58 (by decide) (fun h_12 => ?_) (fun h_12 => ?_)
    · replace hT := mx_t hT h_12
      cases hT
      exact k0 _ _ _ Z (lv_sub hl [0] rfl)
    · replace hT := mx_f hT h_12
      refine lv_aload_n hx hb dX6_digest_61 rfl (lv_at hl 0 rfl) ?_
      refine lv_aload_n hx hb dX6_digest_62 rfl (lv_at hl 0 rfl) ?_
      refine lv_iload_n hx hb dX6_digest_63 rfl (lv_at hl 1 rfl) ?_
      obtain ⟨q_13, h_q_13, hT⟩ := mx_bind hT
      refine mx_callV (As := [.int (w1)]) (rest := [.ref (mad E (246))]) (st1 := [.int (q_13), .ref (mad E (246))]) (C := RX6) (T := TX6) (N := 11) (ci := 6) X Z hl.1 (c6_accountNow l E hJ hy0 _ _ _ h_q_13) wd_28_8 wd_28_9 wd_28_10 wd_1_5 wd_28_11 hd6_accountNow ⟨Nat.le_trans (by decide) hR.1, Nat.le_trans (by decide) hR.2⟩ ⟨Nat.zero_le _, Nat.zero_le _⟩ hy0.i (hy0.c _) rfl (Nat.le_of_ble_eq_true rfl) rfl rfl dX6_digest_64 (fun H locs Z => ?_)
      refine lv_i2l (v := q_13.toInt64) hx hb dX6_digest_67 rfl ?_
      obtain ⟨q_14, h_q_14, hT⟩ := mx_bind hT
      refine mx_callV (As := [.long (q_13.toInt64)]) (rest := []) (st1 := []) (C := RX6) (T := TX6) (N := 11) (ci := 6) X Z hl.1 (c6_mix l E hJ hy0 _ _ _ h_q_14) wd_34_11 wd_34_12 wd_34_13 wd_1_5 wd_34_14 hd6_mix ⟨Nat.le_trans (by decide) hR.1, Nat.le_trans (by decide) hR.2⟩ ⟨Nat.zero_le _, Nat.zero_le _⟩ hy0.i (hy0.c _) rfl (Nat.le_of_ble_eq_true rfl) rfl rfl dX6_digest_68 (fun H locs Z => ?_)
      obtain ⟨v_15, e_v_15, hT⟩ := mx_nm hT
      refine lv_iinc (v := v_15) (lv' := [(1, .int (v_15)), (0, .ref (mad E (246)))]) hx hb dX6_digest_71 hl (k := 1) rfl (by rw [← e_v_15]; rfl) (by decide) rfl (fun ls hl => ?_)
      refine lv_goto (tgt := 56) hx hb dX6_digest_74 (by decide) ?_
      exact ih _ _ _ _ _ _ hT Z (lv_sub hl [1, 0] rfl) k0
set_option maxHeartbeats 4000000 in
set_option maxRecDepth 100000 in
theorem k6_digest_79 {p : Program} {l : Launch} {e : Env} {R : Room} {s : State} {m : MethodId} {args : Array Value} {below : List Frame} {meth : Method} {cd : Code} {Q : State → Prop} {E : mE} (X : mX p s m args cd cX6_digest 3 RX6 E) (hR : 7 ≤ R.frames ∧ 165 ≤ R.locals) (hJ : mJ E) (hy0 : mMo E 246) : ∀ (n : Nat) (w1 : Int32) (G : mM) (H : Heap) (locs : List Loc) (ls : Array Slot) (r : mM), x6_digest_L79 n w1 G = some r → mZ E s.heap H locs G → lv_has ls 3 [(0, .ref (mad E (246))), (1, .int (w1))] → (∀ (H : Heap) (locs : List Loc) (ls : Array Slot), mZ E s.heap H locs r → lv_has ls 3 [(0, .ref (mad E (246)))] → W p l e R s m args below meth cd H locs 0 0 Q (F0 m 116 ls [])) → W p l e R s m args below meth cd H locs 0 0 Q (F0 m 79 ls []) := by
  have hx := X.1
  have hb := X.2.1
  have hown := X.2.2.2.1
  have hts := X.2.2.2.2.1
  intro n
  induction n with
  | zero =>
    intro w1 G H locs ls r hT
    rw [x6_digest_L79] at hT
    cases hT
  | succ n ih =>
    intro w1 G H locs ls r hT Z hl k0
    rw [x6_digest_L79] at hT
    refine lv_iload_n hx hb dX6_digest_79 rfl (lv_at hl 1 rfl) ?_
    refine lv_bipush (v := (7 : Int32)) hx hb dX6_digest_80 (by decide) ?_
    refine lv_aload_n hx hb dX6_digest_82 rfl (lv_at hl 0 rfl) ?_
    refine mx_get (v := .ref (mad E (247))) (ci := 6) (C := RX6) (T := TX6) (N := 11) X Z hy0.i (hy0.c _) rfl inlX6 0 (by decide) wd_7_23 rfl dX6_digest_83 ?_
    refine lv_bipush (v := (72 : Int32)) hx hb dX6_digest_86 (by decide) ?_
    refine mx_iald X Z hy0.z (mx_lit (by decide)) dX6_digest_88 ?_
    refine mx_tops (s2 := [.int (G 247 72), .int ((7 : Int32)), .int (w1)]) rfl ?_
    refine lv_imul hx hb dX6_digest_89 ?_
    refine lv_icmp_ge (tgt := 116) hx hb dX6_digest_90 (by decide) (fun h_17 => ?_) (fun h_17 => ?_)
    · replace hT := mx_t hT h_17
      cases hT
      exact k0 _ _ _ Z (lv_sub hl [0] rfl)
    · replace hT := mx_f hT h_17
      refine lv_aload_n hx hb dX6_digest_93 rfl (lv_at hl 0 rfl) ?_
      refine lv_aload_n hx hb dX6_digest_94 rfl (lv_at hl 0 rfl) ?_
      refine lv_iload_n hx hb dX6_digest_95 rfl (lv_at hl 1 rfl) ?_
      refine lv_bipush (v := (7 : Int32)) hx hb dX6_digest_96 (by decide) ?_
      refine lv_idiv hx hb dX6_digest_98 (by decide) ?_
      refine lv_iload_n hx hb dX6_digest_99 rfl (lv_at hl 1 rfl) ?_
      refine lv_bipush (v := (7 : Int32)) hx hb dX6_digest_100 (by decide) ?_
      refine lv_irem hx hb dX6_digest_102 (by decide) ?_
      obtain ⟨q_18, h_q_18, hT⟩ := mx_bind hT
      refine mx_callV (As := [.int (w1 / ((7 : Int32))), .int (w1 - w1 / ((7 : Int32)) * ((7 : Int32)))]) (rest := [.ref (mad E (246))]) (st1 := [.int (q_18), .ref (mad E (246))]) (C := RX6) (T := TX6) (N := 11) (ci := 6) X Z hl.1 (c6_segmentNow l E hJ hy0 _ _ _ _ h_q_18) wd_26_8 wd_26_9 wd_26_10 wd_1_5 wd_26_11 hd6_segmentNow ⟨Nat.le_trans (by decide) hR.1, Nat.le_trans (by decide) hR.2⟩ ⟨Nat.zero_le _, Nat.zero_le _⟩ hy0.i (hy0.c _) rfl (Nat.le_of_ble_eq_true rfl) rfl rfl dX6_digest_103 (fun H locs Z => ?_)
      refine lv_i2l (v := q_18.toInt64) hx hb dX6_digest_106 rfl ?_
      obtain ⟨q_19, h_q_19, hT⟩ := mx_bind hT
      refine mx_callV (As := [.long (q_18.toInt64)]) (rest := []) (st1 := []) (C := RX6) (T := TX6) (N := 11) (ci := 6) X Z hl.1 (c6_mix l E hJ hy0 _ _ _ h_q_19) wd_34_11 wd_34_12 wd_34_13 wd_1_5 wd_34_14 hd6_mix ⟨Nat.le_trans (by decide) hR.1, Nat.le_trans (by decide) hR.2⟩ ⟨Nat.zero_le _, Nat.zero_le _⟩ hy0.i (hy0.c _) rfl (Nat.le_of_ble_eq_true rfl) rfl rfl dX6_digest_107 (fun H locs Z => ?_)
      obtain ⟨v_20, e_v_20, hT⟩ := mx_nm hT
      refine lv_iinc (v := v_20) (lv' := [(1, .int (v_20)), (0, .ref (mad E (246)))]) hx hb dX6_digest_110 hl (k := 1) rfl (by rw [← e_v_20]; rfl) (by decide) rfl (fun ls hl => ?_)
      refine lv_goto (tgt := 79) hx hb dX6_digest_113 (by decide) ?_
      exact ih _ _ _ _ _ _ hT Z (lv_sub hl [1, 0] rfl) k0
set_option maxHeartbeats 4000000 in
set_option maxRecDepth 100000 in
theorem k6_digest_131 {p : Program} {l : Launch} {e : Env} {R : Room} {s : State} {m : MethodId} {args : Array Value} {below : List Frame} {meth : Method} {cd : Code} {Q : State → Prop} {E : mE} (X : mX p s m args cd cX6_digest 3 RX6 E) (hR : 7 ≤ R.frames ∧ 165 ≤ R.locals) (hJ : mJ E) (hy0 : mMo E 246) (y1 : Int32) : ∀ (n : Nat) (w2 : Int32) (G : mM) (H : Heap) (locs : List Loc) (ls : Array Slot) (r : mM), x6_digest_L131 y1 n w2 G = some r → mZ E s.heap H locs G → lv_has ls 3 [(0, .ref (mad E (246))), (1, .int (y1)), (2, .int (w2))] → (∀ (H : Heap) (locs : List Loc) (ls : Array Slot), mZ E s.heap H locs r → lv_has ls 3 [(0, .ref (mad E (246))), (1, .int (y1))] → W p l e R s m args below meth cd H locs 0 0 Q (F0 m 154 ls [])) → W p l e R s m args below meth cd H locs 0 0 Q (F0 m 131 ls []) := by
  have hx := X.1
  have hb := X.2.1
  have hown := X.2.2.2.1
  have hts := X.2.2.2.2.1
  intro n
  induction n with
  | zero =>
    intro w2 G H locs ls r hT
    rw [x6_digest_L131] at hT
    cases hT
  | succ n ih =>
    intro w2 G H locs ls r hT Z hl k0
    rw [x6_digest_L131] at hT
    refine lv_iload_n hx hb dX6_digest_131 rfl (lv_at hl 2 rfl) ?_
    refine lv_bipush (v := (10 : Int32)) hx hb dX6_digest_132 (by decide) ?_
    refine lv_icmp_ge (tgt := 154) hx hb dX6_digest_134 (by decide) (fun h_23 => ?_) (fun h_23 => ?_)
    · replace hT := mx_t hT h_23
      cases hT
      exact k0 _ _ _ Z (lv_sub hl [0, 1] rfl)
    · replace hT := mx_f hT h_23
      refine lv_aload_n hx hb dX6_digest_137 rfl (lv_at hl 0 rfl) ?_
      refine lv_aload_n hx hb dX6_digest_138 rfl (lv_at hl 0 rfl) ?_
      refine lv_iload_n hx hb dX6_digest_139 rfl (lv_at hl 1 rfl) ?_
      refine lv_iload_n hx hb dX6_digest_140 rfl (lv_at hl 2 rfl) ?_
      obtain ⟨q_24, h_q_24, hT⟩ := mx_bind hT
      refine mx_callV (As := [.int (y1), .int (w2)]) (rest := [.ref (mad E (246))]) (st1 := [.int (q_24), .ref (mad E (246))]) (C := RX6) (T := TX6) (N := 11) (ci := 6) X Z hl.1 (c6_trainNow l E hJ hy0 _ _ _ _ h_q_24) wd_27_8 wd_27_9 wd_27_10 wd_1_5 wd_27_11 hd6_trainNow ⟨Nat.le_trans (by decide) hR.1, Nat.le_trans (by decide) hR.2⟩ ⟨Nat.zero_le _, Nat.zero_le _⟩ hy0.i (hy0.c _) rfl (Nat.le_of_ble_eq_true rfl) rfl rfl dX6_digest_141 (fun H locs Z => ?_)
      refine lv_i2l (v := q_24.toInt64) hx hb dX6_digest_144 rfl ?_
      obtain ⟨q_25, h_q_25, hT⟩ := mx_bind hT
      refine mx_callV (As := [.long (q_24.toInt64)]) (rest := []) (st1 := []) (C := RX6) (T := TX6) (N := 11) (ci := 6) X Z hl.1 (c6_mix l E hJ hy0 _ _ _ h_q_25) wd_34_11 wd_34_12 wd_34_13 wd_1_5 wd_34_14 hd6_mix ⟨Nat.le_trans (by decide) hR.1, Nat.le_trans (by decide) hR.2⟩ ⟨Nat.zero_le _, Nat.zero_le _⟩ hy0.i (hy0.c _) rfl (Nat.le_of_ble_eq_true rfl) rfl rfl dX6_digest_145 (fun H locs Z => ?_)
      obtain ⟨v_26, e_v_26, hT⟩ := mx_nm hT
      refine lv_iinc (v := v_26) (lv' := [(2, .int (v_26)), (0, .ref (mad E (246))), (1, .int (y1))]) hx hb dX6_digest_148 hl (k := 2) rfl (by rw [← e_v_26]; rfl) (by decide) rfl (fun ls hl => ?_)
      refine lv_goto (tgt := 131) hx hb dX6_digest_151 (by decide) ?_
      exact ih _ _ _ _ _ _ hT Z (lv_sub hl [1, 2, 0] rfl) k0
set_option maxHeartbeats 4000000 in
set_option maxRecDepth 100000 in
theorem k6_digest_118 {p : Program} {l : Launch} {e : Env} {R : Room} {s : State} {m : MethodId} {args : Array Value} {below : List Frame} {meth : Method} {cd : Code} {Q : State → Prop} {E : mE} (X : mX p s m args cd cX6_digest 3 RX6 E) (hR : 7 ≤ R.frames ∧ 165 ≤ R.locals) (hJ : mJ E) (hy0 : mMo E 246) : ∀ (n : Nat) (w1 : Int32) (G : mM) (H : Heap) (locs : List Loc) (ls : Array Slot) (r : mM), x6_digest_L118 n w1 G = some r → mZ E s.heap H locs G → lv_has ls 3 [(0, .ref (mad E (246))), (1, .int (w1))] → (∀ (H : Heap) (locs : List Loc) (ls : Array Slot), mZ E s.heap H locs r → lv_has ls 3 [(0, .ref (mad E (246)))] → W p l e R s m args below meth cd H locs 0 0 Q (F0 m 170 ls [])) → W p l e R s m args below meth cd H locs 0 0 Q (F0 m 118 ls []) := by
  have hx := X.1
  have hb := X.2.1
  have hown := X.2.2.2.1
  have hts := X.2.2.2.2.1
  intro n
  induction n with
  | zero =>
    intro w1 G H locs ls r hT
    rw [x6_digest_L118] at hT
    cases hT
  | succ n ih =>
    intro w1 G H locs ls r hT Z hl k0
    rw [x6_digest_L118] at hT
    refine lv_iload_n hx hb dX6_digest_118 rfl (lv_at hl 1 rfl) ?_
    refine lv_aload_n hx hb dX6_digest_119 rfl (lv_at hl 0 rfl) ?_
    refine mx_get (v := .ref (mad E (247))) (ci := 6) (C := RX6) (T := TX6) (N := 11) X Z hy0.i (hy0.c _) rfl inlX6 0 (by decide) wd_7_23 rfl dX6_digest_120 ?_
    refine lv_bipush (v := (73 : Int32)) hx hb dX6_digest_123 (by decide) ?_
    refine mx_iald X Z hy0.z (mx_lit (by decide)) dX6_digest_125 ?_
    refine mx_tops (s2 := [.int (G 247 73), .int (w1)]) rfl ?_
    refine lv_icmp_ge (tgt := 170) hx hb dX6_digest_126 (by decide) (fun h_22 => ?_) (fun h_22 => ?_)
    · replace hT := mx_t hT h_22
      cases hT
      exact k0 _ _ _ Z (lv_sub hl [0] rfl)
    · replace hT := mx_f hT h_22
      refine lv_iconst (v := (0 : Int32)) hx hb dX6_digest_129 (by decide) ?_
      refine lv_istore_n (lv' := [(2, .int ((0 : Int32))), (0, .ref (mad E (246))), (1, .int (w1))]) hx hb dX6_digest_130 rfl hl (by decide) rfl (fun ls hl => ?_)
      obtain ⟨q_27, h_q_27, hT⟩ := mx_bind hT
      refine k6_digest_131 X hR hJ hy0 _ _ _ _ _ _ _ _ h_q_27 Z (lv_sub (l' := [(0, .ref (mad E (246))), (1, .int (w1)), (2, .int ((0 : Int32)))]) hl [1, 2, 0] rfl) (fun H locs ls Z hl => ?_)
      · refine lv_aload_n hx hb dX6_digest_154 rfl (lv_at hl 0 rfl) ?_
        refine lv_aload_n hx hb dX6_digest_155 rfl (lv_at hl 0 rfl) ?_
        refine lv_iload_n hx hb dX6_digest_156 rfl (lv_at hl 1 rfl) ?_
        obtain ⟨q_28, h_q_28, hT⟩ := mx_bind hT
        refine mx_callV (As := [.int (w1)]) (rest := [.ref (mad E (246))]) (st1 := [.int (q_28), .ref (mad E (246))]) (C := RX6) (T := TX6) (N := 11) (ci := 6) X Z hl.1 (c6_reason l E hJ hy0 _ _ _ h_q_28) wd_21_15 wd_21_16 wd_21_17 wd_1_5 wd_21_18 hd6_reason ⟨Nat.le_trans (by decide) hR.1, Nat.le_trans (by decide) hR.2⟩ ⟨Nat.zero_le _, Nat.zero_le _⟩ hy0.i (hy0.c _) rfl (Nat.le_of_ble_eq_true rfl) rfl rfl dX6_digest_157 (fun H locs Z => ?_)
        refine lv_i2l (v := q_28.toInt64) hx hb dX6_digest_160 rfl ?_
        obtain ⟨q_29, h_q_29, hT⟩ := mx_bind hT
        refine mx_callV (As := [.long (q_28.toInt64)]) (rest := []) (st1 := []) (C := RX6) (T := TX6) (N := 11) (ci := 6) X Z hl.1 (c6_mix l E hJ hy0 _ _ _ h_q_29) wd_34_11 wd_34_12 wd_34_13 wd_1_5 wd_34_14 hd6_mix ⟨Nat.le_trans (by decide) hR.1, Nat.le_trans (by decide) hR.2⟩ ⟨Nat.zero_le _, Nat.zero_le _⟩ hy0.i (hy0.c _) rfl (Nat.le_of_ble_eq_true rfl) rfl rfl dX6_digest_161 (fun H locs Z => ?_)
        obtain ⟨v_30, e_v_30, hT⟩ := mx_nm hT
        refine lv_iinc (v := v_30) (lv' := [(1, .int (v_30)), (0, .ref (mad E (246)))]) hx hb dX6_digest_164 hl (k := 1) rfl (by rw [← e_v_30]; rfl) (by decide) rfl (fun ls hl => ?_)
        refine lv_goto (tgt := 118) hx hb dX6_digest_167 (by decide) ?_
        exact ih _ _ _ _ _ _ hT Z (lv_sub hl [1, 0] rfl) k0
set_option maxHeartbeats 4000000 in
set_option maxRecDepth 100000 in
theorem k6_digest_172 {p : Program} {l : Launch} {e : Env} {R : Room} {s : State} {m : MethodId} {args : Array Value} {below : List Frame} {meth : Method} {cd : Code} {Q : State → Prop} {E : mE} (X : mX p s m args cd cX6_digest 3 RX6 E) (hR : 7 ≤ R.frames ∧ 165 ≤ R.locals) (hJ : mJ E) (hy0 : mMo E 246) : ∀ (n : Nat) (w1 : Int32) (G : mM) (H : Heap) (locs : List Loc) (ls : Array Slot) (r : mM), x6_digest_L172 n w1 G = some r → mZ E s.heap H locs G → lv_has ls 3 [(0, .ref (mad E (246))), (1, .int (w1))] → (∀ (H : Heap) (locs : List Loc) (ls : Array Slot), mZ E s.heap H locs r → lv_has ls 3 [(0, .ref (mad E (246)))] → W p l e R s m args below meth cd H locs 0 0 Q (F0 m 195 ls [])) → W p l e R s m args below meth cd H locs 0 0 Q (F0 m 172 ls []) := by
  have hx := X.1
  have hb := X.2.1
  have hown := X.2.2.2.1
  have hts := X.2.2.2.2.1
  intro n
  induction n with
  | zero =>
    intro w1 G H locs ls r hT
    rw [x6_digest_L172] at hT
    cases hT
  | succ n ih =>
    intro w1 G H locs ls r hT Z hl k0
    rw [x6_digest_L172] at hT
    refine lv_iload_n hx hb dX6_digest_172 rfl (lv_at hl 1 rfl) ?_
    refine lv_iconst (v := (4 : Int32)) hx hb dX6_digest_173 (by decide) ?_
    refine lv_icmp_ge (tgt := 195) hx hb dX6_digest_174 (by decide) (fun h_32 => ?_) (fun h_32 => ?_)
    · replace hT := mx_t hT h_32
      cases hT
      exact k0 _ _ _ Z (lv_sub hl [0] rfl)
    · replace hT := mx_f hT h_32
      refine lv_aload_n hx hb dX6_digest_177 rfl (lv_at hl 0 rfl) ?_
      refine lv_aload_n hx hb dX6_digest_178 rfl (lv_at hl 0 rfl) ?_
      refine lv_bipush (v := (50 : Int32)) hx hb dX6_digest_179 (by decide) ?_
      refine lv_iload_n hx hb dX6_digest_181 rfl (lv_at hl 1 rfl) ?_
      obtain ⟨q_33, h_q_33, hT⟩ := mx_bind hT
      refine mx_callV (As := [.int ((50 : Int32)), .int (w1)]) (rest := [.ref (mad E (246))]) (st1 := [.int (q_33.1), .ref (mad E (246))]) (C := RX6) (T := TX6) (N := 11) (ci := 6) X Z hl.1 (c6_ahead l E hJ hy0 _ _ _ _ h_q_33) wd_30_21 wd_30_22 wd_30_23 wd_1_5 wd_31_0 hd6_ahead ⟨Nat.le_trans (by decide) hR.1, Nat.le_trans (by decide) hR.2⟩ ⟨Nat.zero_le _, Nat.zero_le _⟩ hy0.i (hy0.c _) rfl (Nat.le_of_ble_eq_true rfl) rfl rfl dX6_digest_182 (fun H locs Z => ?_)
      refine lv_i2l (v := q_33.1.toInt64) hx hb dX6_digest_185 rfl ?_
      obtain ⟨q_34, h_q_34, hT⟩ := mx_bind hT
      refine mx_callV (As := [.long (q_33.1.toInt64)]) (rest := []) (st1 := []) (C := RX6) (T := TX6) (N := 11) (ci := 6) X Z hl.1 (c6_mix l E hJ hy0 _ _ _ h_q_34) wd_34_11 wd_34_12 wd_34_13 wd_1_5 wd_34_14 hd6_mix ⟨Nat.le_trans (by decide) hR.1, Nat.le_trans (by decide) hR.2⟩ ⟨Nat.zero_le _, Nat.zero_le _⟩ hy0.i (hy0.c _) rfl (Nat.le_of_ble_eq_true rfl) rfl rfl dX6_digest_186 (fun H locs Z => ?_)
      obtain ⟨v_35, e_v_35, hT⟩ := mx_nm hT
      refine lv_iinc (v := v_35) (lv' := [(1, .int (v_35)), (0, .ref (mad E (246)))]) hx hb dX6_digest_189 hl (k := 1) rfl (by rw [← e_v_35]; rfl) (by decide) rfl (fun ls hl => ?_)
      refine lv_goto (tgt := 172) hx hb dX6_digest_192 (by decide) ?_
      exact ih _ _ _ _ _ _ hT Z (lv_sub hl [1, 0] rfl) k0
set_option maxHeartbeats 4000000 in
set_option maxRecDepth 100000 in
theorem k6_digest_217 {p : Program} {l : Launch} {e : Env} {R : Room} {s : State} {m : MethodId} {args : Array Value} {below : List Frame} {meth : Method} {cd : Code} {Q : State → Prop} {E : mE} (X : mX p s m args cd cX6_digest 3 RX6 E) (hR : 7 ≤ R.frames ∧ 165 ≤ R.locals) (hJ : mJ E) (hy0 : mMo E 246) : ∀ (n : Nat) (w1 : Int32) (G : mM) (H : Heap) (locs : List Loc) (ls : Array Slot) (r : mM), x6_digest_L217 n w1 G = some r → mZ E s.heap H locs G → lv_has ls 3 [(0, .ref (mad E (246))), (1, .int (w1))] → (∀ (H : Heap) (locs : List Loc) (ls : Array Slot), mZ E s.heap H locs r → lv_has ls 3 [(0, .ref (mad E (246)))] → W p l e R s m args below meth cd H locs 0 0 Q (F0 m 242 ls [])) → W p l e R s m args below meth cd H locs 0 0 Q (F0 m 217 ls []) := by
  have hx := X.1
  have hb := X.2.1
  have hown := X.2.2.2.1
  have hts := X.2.2.2.2.1
  intro n
  induction n with
  | zero =>
    intro w1 G H locs ls r hT
    rw [x6_digest_L217] at hT
    cases hT
  | succ n ih =>
    intro w1 G H locs ls r hT Z hl k0
    rw [x6_digest_L217] at hT
    refine lv_iload_n hx hb dX6_digest_217 rfl (lv_at hl 1 rfl) ?_
    refine lv_aload_n hx hb dX6_digest_218 rfl (lv_at hl 0 rfl) ?_
    refine mx_get (v := .int (G 246 6)) (ci := 6) (C := RX6) (T := TX6) (N := 11) X Z hy0.i (hy0.c _) rfl inlX6 6 (by decide) wd_9_0 rfl dX6_digest_219 ?_
    refine lv_icmp_ge (tgt := 242) hx hb dX6_digest_222 (by decide) (fun h_41 => ?_) (fun h_41 => ?_)
    · replace hT := mx_t hT h_41
      cases hT
      exact k0 _ _ _ Z (lv_sub hl [0] rfl)
    · replace hT := mx_f hT h_41
      refine lv_aload_n hx hb dX6_digest_225 rfl (lv_at hl 0 rfl) ?_
      refine lv_aload_n hx hb dX6_digest_226 rfl (lv_at hl 0 rfl) ?_
      refine mx_get (v := .ref (mad E (251))) (ci := 6) (C := RX6) (T := TX6) (N := 11) X Z hy0.i (hy0.c _) rfl inlX6 7 (by decide) wd_8_3 rfl dX6_digest_227 ?_
      refine lv_iload_n hx hb dX6_digest_230 rfl (lv_at hl 1 rfl) ?_
      obtain ⟨h_42, hT⟩ := mx_chk hT
      refine mx_iald X Z hy0.text h_42 dX6_digest_231 ?_
      refine lv_i2l (v := (G 251 w1.toNatClampNeg).toInt64) hx hb dX6_digest_232 rfl ?_
      obtain ⟨q_43, h_q_43, hT⟩ := mx_bind hT
      refine mx_callV (As := [.long ((G 251 w1.toNatClampNeg).toInt64)]) (rest := []) (st1 := []) (C := RX6) (T := TX6) (N := 11) (ci := 6) X Z hl.1 (c6_mix l E hJ hy0 _ _ _ h_q_43) wd_34_11 wd_34_12 wd_34_13 wd_1_5 wd_34_14 hd6_mix ⟨Nat.le_trans (by decide) hR.1, Nat.le_trans (by decide) hR.2⟩ ⟨Nat.zero_le _, Nat.zero_le _⟩ hy0.i (hy0.c _) rfl (Nat.le_of_ble_eq_true rfl) rfl rfl dX6_digest_233 (fun H locs Z => ?_)
      obtain ⟨v_44, e_v_44, hT⟩ := mx_nm hT
      refine lv_iinc (v := v_44) (lv' := [(1, .int (v_44)), (0, .ref (mad E (246)))]) hx hb dX6_digest_236 hl (k := 1) rfl (by rw [← e_v_44]; rfl) (by decide) rfl (fun ls hl => ?_)
      refine lv_goto (tgt := 217) hx hb dX6_digest_239 (by decide) ?_
      exact ih _ _ _ _ _ _ hT Z (lv_sub hl [1, 0] rfl) k0
set_option maxHeartbeats 4000000 in
set_option maxRecDepth 100000 in
theorem c6_digest (l : Launch) (E : mE) (hJ : mJ E) (hc : mMo E 246) (G : mM) (q : (Int64 × mM)) (hT : x6_digest G = some q) : mMet l E yX6_digest cX6_digest 3 (some .long) 7 165 [.ref (mad E (246))] G (some (.long q.1)) q.2 := by
  refine Met.ofW (cc := cX6_digest) (maxL := 3) (ret := (some .long)) (by decide) rfl ?_
  intro p e s m args below meth cd s₁ B hml hv
  obtain ⟨rfl, hP, hK, hS⟩ := hv
  have X := mx_entry (own := RX6) B hml hK hJ hS rfl
  have hx := X.1
  have hb := X.2.1
  have hown := X.2.2.2.1
  have hts := X.2.2.2.2.1
  have hr := B.returns
  have hlocks := B.notSynchronized
  have hR : 7 ≤ (headSpec (mWs yX6_digest cX6_digest 3 (some .long)) ({ frames := 7, cells := 0, slots := 0, locals := 165 })).room.frames ∧ 165 ≤ (headSpec (mWs yX6_digest cX6_digest 3 (some .long)) ({ frames := 7, cells := 0, slots := 0, locals := 165 })).room.locals := ⟨Nat.le_refl _, Nat.le_refl _⟩
  have Z : mZ E s.heap s.heap [] G := ⟨hP, va_S.rf⟩
  have hl := lv_entry ([.ref (mad E (246))]) (n := 3) (Nat.le_of_ble_eq_true rfl)
  rw [lg_entry_eq]
  generalize (lg_sl ([.ref (mad E (246))]) ++ List.replicate (3 - (lg_sl ([.ref (mad E (246))])).length) Slot.unset).toArray = ls at hl ⊢
  have hl : lv_has ls 3 [(0, .ref (mad E (246)))] := hl
  unfold x6_digest at hT
  refine lv_aload_n hx hb dX6_digest_0 rfl (lv_at hl 0 rfl) ?_
  refine lv_ldc2 (v := (2069 : Int64)) hx hb hown (hts _ wd_34_9) dX6_digest_1 ?_
  obtain ⟨G_1, e_G_1, hT⟩ := mx_nm hT
  refine mx_putl (G' := upL G 246 ((2069 : Int64))) (ci := 6) (C := RX6) (T := TX6) (N := 11) X Z hc.i (hc.c _) rfl inlX6 tyX6 tyX6_ok nmX6 10 (by decide) wd_34_10 rfl rfl rfl (by show 10 < 11; decide) ((hc.c _).trans (congrArg (fun z => Sum.inr (6, z)) (sp_Mo_10 (mad E) _ _ _))) (fun c h => upL_other h) dX6_digest_4 (fun H locs Z => ?_)
  rw [e_G_1] at Z
  refine lv_iconst (v := (0 : Int32)) hx hb dX6_digest_7 (by decide) ?_
  refine lv_istore_n (lv' := [(1, .int ((0 : Int32))), (0, .ref (mad E (246)))]) hx hb dX6_digest_8 rfl hl (by decide) rfl (fun ls hl => ?_)
  obtain ⟨q_6, h_q_6, hT⟩ := mx_bind hT
  refine k6_digest_9 X hR hJ hc  _ _ _ _ _ _ _ h_q_6 Z (lv_sub (l' := [(0, .ref (mad E (246))), (1, .int ((0 : Int32)))]) hl [1, 0] rfl) (fun H locs ls Z hl => ?_)
  · refine lv_iconst (v := (0 : Int32)) hx hb dX6_digest_31 (by decide) ?_
    refine lv_istore_n (lv' := [(1, .int ((0 : Int32))), (0, .ref (mad E (246)))]) hx hb dX6_digest_32 rfl hl (by decide) rfl (fun ls hl => ?_)
    obtain ⟨q_11, h_q_11, hT⟩ := mx_bind hT
    refine k6_digest_33 X hR hJ hc  _ _ _ _ _ _ _ h_q_11 Z (lv_sub (l' := [(0, .ref (mad E (246))), (1, .int ((0 : Int32)))]) hl [1, 0] rfl) (fun H locs ls Z hl => ?_)
    · refine lv_iconst (v := (0 : Int32)) hx hb dX6_digest_54 (by decide) ?_
      refine lv_istore_n (lv' := [(1, .int ((0 : Int32))), (0, .ref (mad E (246)))]) hx hb dX6_digest_55 rfl hl (by decide) rfl (fun ls hl => ?_)
      obtain ⟨q_16, h_q_16, hT⟩ := mx_bind hT
      refine k6_digest_56 X hR hJ hc  _ _ _ _ _ _ _ h_q_16 Z (lv_sub (l' := [(0, .ref (mad E (246))), (1, .int ((0 : Int32)))]) hl [1, 0] rfl) (fun H locs ls Z hl => ?_)
      · refine lv_iconst (v := (0 : Int32)) hx hb dX6_digest_77 (by decide) ?_
        refine lv_istore_n (lv' := [(1, .int ((0 : Int32))), (0, .ref (mad E (246)))]) hx hb dX6_digest_78 rfl hl (by decide) rfl (fun ls hl => ?_)
        obtain ⟨q_21, h_q_21, hT⟩ := mx_bind hT
        refine k6_digest_79 X hR hJ hc  _ _ _ _ _ _ _ h_q_21 Z (lv_sub (l' := [(0, .ref (mad E (246))), (1, .int ((0 : Int32)))]) hl [1, 0] rfl) (fun H locs ls Z hl => ?_)
        · refine lv_iconst (v := (0 : Int32)) hx hb dX6_digest_116 (by decide) ?_
          refine lv_istore_n (lv' := [(1, .int ((0 : Int32))), (0, .ref (mad E (246)))]) hx hb dX6_digest_117 rfl hl (by decide) rfl (fun ls hl => ?_)
          obtain ⟨q_31, h_q_31, hT⟩ := mx_bind hT
          refine k6_digest_118 X hR hJ hc  _ _ _ _ _ _ _ h_q_31 Z (lv_sub (l' := [(0, .ref (mad E (246))), (1, .int ((0 : Int32)))]) hl [1, 0] rfl) (fun H locs ls Z hl => ?_)
          · refine lv_iconst (v := (0 : Int32)) hx hb dX6_digest_170 (by decide) ?_
            refine lv_istore_n (lv' := [(1, .int ((0 : Int32))), (0, .ref (mad E (246)))]) hx hb dX6_digest_171 rfl hl (by decide) rfl (fun ls hl => ?_)
            obtain ⟨q_36, h_q_36, hT⟩ := mx_bind hT
            refine k6_digest_172 X hR hJ hc  _ _ _ _ _ _ _ h_q_36 Z (lv_sub (l' := [(0, .ref (mad E (246))), (1, .int ((0 : Int32)))]) hl [1, 0] rfl) (fun H locs ls Z hl => ?_)
            · refine lv_aload_n hx hb dX6_digest_195 rfl (lv_at hl 0 rfl) ?_
              refine lv_aload_n hx hb dX6_digest_196 rfl (lv_at hl 0 rfl) ?_
              obtain ⟨q_37, h_q_37, hT⟩ := mx_bind hT
              refine mx_callV (As := []) (rest := [.ref (mad E (246))]) (st1 := [.double (q_37), .ref (mad E (246))]) (C := RX6) (T := TX6) (N := 11) (ci := 6) X Z hl.1 (c6_meanSinking l E hJ hc _ _ h_q_37) wd_34_16 wd_32_19 wd_32_20 wd_1_5 wd_32_21 hd6_meanSinking ⟨Nat.le_trans (by decide) hR.1, Nat.le_trans (by decide) hR.2⟩ ⟨Nat.zero_le _, Nat.zero_le _⟩ hc.i (hc.c _) rfl (Nat.le_of_ble_eq_true rfl) rfl rfl dX6_digest_197 (fun H locs Z => ?_)
              obtain ⟨h_38, hT⟩ := mx_chk hT
              refine mx_callS (As := [.double (q_37)]) (rest := [.ref (mad E (246))]) (st1 := [.long (q_37.toInt64), .ref (mad E (246))]) X Z hl.1 (cJ_bits l E hJ _ _ h_38) wd_34_17 wd_34_18 wd_35_0 wd_34_20 hdJ_bits ⟨Nat.le_trans (by decide) hR.1, Nat.le_trans (by decide) hR.2⟩ ⟨Nat.zero_le _, Nat.zero_le _⟩ (Nat.le_of_ble_eq_true rfl) rfl rfl dX6_digest_200 (fun H locs Z => ?_)
              obtain ⟨q_39, h_q_39, hT⟩ := mx_bind hT
              refine mx_callV (As := [.long (q_37.toInt64)]) (rest := []) (st1 := []) (C := RX6) (T := TX6) (N := 11) (ci := 6) X Z hl.1 (c6_mix l E hJ hc _ _ _ h_q_39) wd_34_11 wd_34_12 wd_34_13 wd_1_5 wd_34_14 hd6_mix ⟨Nat.le_trans (by decide) hR.1, Nat.le_trans (by decide) hR.2⟩ ⟨Nat.zero_le _, Nat.zero_le _⟩ hc.i (hc.c _) rfl (Nat.le_of_ble_eq_true rfl) rfl rfl dX6_digest_203 (fun H locs Z => ?_)
              refine lv_aload_n hx hb dX6_digest_206 rfl (lv_at hl 0 rfl) ?_
              refine lv_aload_n hx hb dX6_digest_207 rfl (lv_at hl 0 rfl) ?_
              refine mx_get (v := .int (q_39 246 6)) (ci := 6) (C := RX6) (T := TX6) (N := 11) X Z hc.i (hc.c _) rfl inlX6 6 (by decide) wd_9_0 rfl dX6_digest_208 ?_
              refine lv_i2l (v := (q_39 246 6).toInt64) hx hb dX6_digest_211 rfl ?_
              obtain ⟨q_40, h_q_40, hT⟩ := mx_bind hT
              refine mx_callV (As := [.long ((q_39 246 6).toInt64)]) (rest := []) (st1 := []) (C := RX6) (T := TX6) (N := 11) (ci := 6) X Z hl.1 (c6_mix l E hJ hc _ _ _ h_q_40) wd_34_11 wd_34_12 wd_34_13 wd_1_5 wd_34_14 hd6_mix ⟨Nat.le_trans (by decide) hR.1, Nat.le_trans (by decide) hR.2⟩ ⟨Nat.zero_le _, Nat.zero_le _⟩ hc.i (hc.c _) rfl (Nat.le_of_ble_eq_true rfl) rfl rfl dX6_digest_212 (fun H locs Z => ?_)
              refine lv_iconst (v := (0 : Int32)) hx hb dX6_digest_215 (by decide) ?_
              refine lv_istore_n (lv' := [(1, .int ((0 : Int32))), (0, .ref (mad E (246)))]) hx hb dX6_digest_216 rfl hl (by decide) rfl (fun ls hl => ?_)
              obtain ⟨q_45, h_q_45, hT⟩ := mx_bind hT
              refine k6_digest_217 X hR hJ hc  _ _ _ _ _ _ _ h_q_45 Z (lv_sub (l' := [(0, .ref (mad E (246))), (1, .int ((0 : Int32)))]) hl [1, 0] rfl) (fun H locs ls Z hl => ?_)
              · refine lv_aload_n hx hb dX6_digest_242 rfl (lv_at hl 0 rfl) ?_
                refine mx_get (v := .long (mLong (q_45 246 10) (q_45 246 11))) (ci := 6) (C := RX6) (T := TX6) (N := 11) X Z hc.i (hc.c _) rfl inlX6 10 (by decide) wd_34_10 rfl dX6_digest_243 ?_
                cases hT
                exact W.lret hx hb hr (fun t ht hW => mx_end Z t ht _) Z.2.2.2 dX6_digest_246
