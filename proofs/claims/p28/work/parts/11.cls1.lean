/-! PeatRailway$InputText.layOnto -/
def x1_layOnto_L6 (y1 : Nat) : Nat → Int32 → mM → Option (mM)
  | 0, _, _ => none
  | n + 1, w2, G =>
    if (G 241 1) ≤ w2 then
      some (G)
    else
      (x1_codeAt w2 G).bind fun q_3 =>
      (x1_isDigit q_3 G).bind fun q_4 =>
      if q_4 = 0 then
        if q_3 = ((112 : Int32)) then
          (x3_widenLatestSegment y1 G).bind fun q_8 =>
          mNm (w2 + (1 : Int32)) fun v_9 =>
          x1_layOnto_L6 y1 n v_9 q_8
        else
          mNm (w2 + (1 : Int32)) fun v_7 =>
          x1_layOnto_L6 y1 n v_7 G
      else
        (x3_appendSegment y1 (q_3 - ((48 : Int32))) G).bind fun q_10 =>
        mNm (w2 + (1 : Int32)) fun v_11 =>
        x1_layOnto_L6 y1 n v_11 q_10
def x1_layOnto (d1 : Nat) (G : mM) : Option mM :=
  (x3_beginTrack d1 G).bind fun q_1 =>
  (x1_layOnto_L6 d1 mFu ((0 : Int32)) q_1).bind fun q_12 =>
  (x3_endTrack d1 q_12).bind fun q_13 =>
  some (q_13)
theorem hd1_layOnto : yX1_layOnto.cls = RX1 ∧ yX1_layOnto.cls ≠ "java/lang/invoke/MethodHandle" ∧ yX1_layOnto.cls ≠ "java/lang/invoke/VarHandle" ∧ (parseMethodDescriptor yX1_layOnto.desc).map (fun d => d.parameters.length) = some 1 := by decide +kernel
set_option maxHeartbeats 4000000 in
set_option maxRecDepth 100000 in
theorem k1_layOnto_6 {p : Program} {l : Launch} {e : Env} {R : Room} {s : State} {m : MethodId} {args : Array Value} {below : List Frame} {meth : Method} {cd : Code} {Q : State → Prop} {E : mE} (X : mX p s m args cd cX1_layOnto 4 RX1 E) (hR : 2 ≤ R.frames ∧ 46 ≤ R.locals) (hJ : mJ E) {y1 : Nat} (hy0 : mTx E 241) (hy1 : mSt E y1) : ∀ (n : Nat) (w2 : Int32) (G : mM) (H : Heap) (locs : List Loc) (ls : Array Slot) (r : mM), x1_layOnto_L6 y1 n w2 G = some r → mZ E s.heap H locs G → lv_has ls 4 [(0, .ref (mad E (241))), (1, .ref (mad E (y1))), (2, .int (w2))] → (∀ (H : Heap) (locs : List Loc) (ls : Array Slot), mZ E s.heap H locs r → lv_has ls 4 [(0, .ref (mad E (241))), (1, .ref (mad E (y1)))] → W p l e R s m args below meth cd H locs 0 0 Q (F0 m 54 ls [])) → W p l e R s m args below meth cd H locs 0 0 Q (F0 m 6 ls []) := by
  have hx := X.1
  have hb := X.2.1
  have hown := X.2.2.2.1
  have hts := X.2.2.2.2.1
  intro n
  induction n with
  | zero =>
    intro w2 G H locs ls r hT
    rw [x1_layOnto_L6] at hT
    cases hT
  | succ n ih =>
    intro w2 G H locs ls r hT Z hl k0
    rw [x1_layOnto_L6] at hT
    refine lv_iload_n hx hb dX1_layOnto_6 rfl (lv_at hl 2 rfl) ?_
    refine lv_aload_n hx hb dX1_layOnto_7 rfl (lv_at hl 0 rfl) ?_
    refine mx_get (v := .int (G 241 1)) (ci := 1) (C := RX1) (T := TX1) (N := 2) X Z hy0.i (hy0.c _) rfl inlX1 1 (by decide) wd_4_12 rfl dX1_layOnto_8 ?_
    refine lv_icmp_ge (tgt := 54) hx hb dX1_layOnto_11 (by decide) (fun h_2 => ?_) (fun h_2 => ?_)
    · replace hT := mx_t hT h_2
      cases hT
      exact k0 _ _ _ Z (lv_sub hl [0, 1] rfl)
    · replace hT := mx_f hT h_2
      refine lv_aload_n hx hb dX1_layOnto_14 rfl (lv_at hl 0 rfl) ?_
      refine lv_iload_n hx hb dX1_layOnto_15 rfl (lv_at hl 2 rfl) ?_
      obtain ⟨q_3, h_q_3, hT⟩ := mx_bind hT
      refine mx_callV (As := [.int (w2)]) (rest := []) (st1 := [.int (q_3)]) (C := RX1) (T := TX1) (N := 2) (ci := 1) X Z hl.1 (c1_codeAt l E hJ hy0 _ _ _ h_q_3) wd_5_17 wd_5_18 wd_5_19 wd_1_13 wd_5_20 hd1_codeAt ⟨Nat.le_trans (by decide) hR.1, Nat.le_trans (by decide) hR.2⟩ ⟨Nat.zero_le _, Nat.zero_le _⟩ hy0.i (hy0.c _) rfl (Nat.le_of_ble_eq_true rfl) rfl rfl dX1_layOnto_16 (fun H locs Z => ?_)
      refine lv_istore_n (lv' := [(3, .int (q_3)), (0, .ref (mad E (241))), (1, .ref (mad E (y1))), (2, .int (w2))]) hx hb dX1_layOnto_19 rfl hl (by decide) rfl (fun ls hl => ?_)
      refine lv_iload_n hx hb dX1_layOnto_20 rfl (lv_at hl 0 rfl) ?_
      obtain ⟨q_4, h_q_4, hT⟩ := mx_bind hT
      refine mx_callS (As := [.int (q_3)]) (rest := []) (st1 := [.int (q_4)]) X Z hl.1 (c1_isDigit l E hJ _ _ _ h_q_4) wd_5_21 wd_5_22 wd_1_13 wd_5_23 hd1_isDigit ⟨Nat.le_trans (by decide) hR.1, Nat.le_trans (by decide) hR.2⟩ ⟨Nat.zero_le _, Nat.zero_le _⟩ (Nat.le_of_ble_eq_true rfl) rfl rfl dX1_layOnto_21 (fun H locs Z => ?_)
      refine lv_if_eq (tgt := 38) hx hb dX1_layOnto_24 (by decide) (fun h_5 => ?_) (fun h_5 => ?_)
      · replace hT := mx_t hT h_5
        refine lv_iload_n hx hb dX1_layOnto_38 rfl (lv_at hl 0 rfl) ?_
        refine lv_bipush (v := (112 : Int32)) hx hb dX1_layOnto_39 (by decide) ?_
        refine lv_icmp_ne (tgt := 48) hx hb dX1_layOnto_41 (by decide) (fun h_6 => ?_) (fun h_6 => ?_)
        · replace hT := mx_f hT h_6
          obtain ⟨v_7, e_v_7, hT⟩ := mx_nm hT
          refine lv_iinc (v := v_7) (lv' := [(2, .int (v_7)), (3, .int (q_3)), (0, .ref (mad E (241))), (1, .ref (mad E (y1)))]) hx hb dX1_layOnto_48 hl (k := 3) rfl (by rw [← e_v_7]; rfl) (by decide) rfl (fun ls hl => ?_)
          refine lv_goto (tgt := 6) hx hb dX1_layOnto_51 (by decide) ?_
          exact ih _ _ _ _ _ _ hT Z (lv_sub hl [2, 3, 0] rfl) k0
        · replace hT := mx_t hT h_6
          refine lv_aload_n hx hb dX1_layOnto_44 rfl (lv_at hl 2 rfl) ?_
          obtain ⟨q_8, h_q_8, hT⟩ := mx_bind hT
          refine mx_callV (As := []) (rest := []) (st1 := []) (C := RX3) (T := TX3) (N := 11) (ci := 3) X Z hl.1 (c3_widenLatestSegment l E hJ hy1 _ _ h_q_8) wd_6_15 wd_6_16 wd_6_17 wd_1_16 wd_6_18 hd3_widenLatestSegment ⟨Nat.le_trans (by decide) hR.1, Nat.le_trans (by decide) hR.2⟩ ⟨Nat.zero_le _, Nat.zero_le _⟩ hy1.i (hy1.c _) rfl (Nat.le_of_ble_eq_true rfl) rfl rfl dX1_layOnto_45 (fun H locs Z => ?_)
          obtain ⟨v_9, e_v_9, hT⟩ := mx_nm hT
          refine lv_iinc (v := v_9) (lv' := [(2, .int (v_9)), (3, .int (q_3)), (0, .ref (mad E (241))), (1, .ref (mad E (y1)))]) hx hb dX1_layOnto_48 hl (k := 3) rfl (by rw [← e_v_9]; rfl) (by decide) rfl (fun ls hl => ?_)
          refine lv_goto (tgt := 6) hx hb dX1_layOnto_51 (by decide) ?_
          exact ih _ _ _ _ _ _ hT Z (lv_sub hl [2, 3, 0] rfl) k0
      · replace hT := mx_f hT h_5
        refine lv_aload_n hx hb dX1_layOnto_27 rfl (lv_at hl 2 rfl) ?_
        refine lv_iload_n hx hb dX1_layOnto_28 rfl (lv_at hl 0 rfl) ?_
        refine lv_bipush (v := (48 : Int32)) hx hb dX1_layOnto_29 (by decide) ?_
        refine lv_isub hx hb dX1_layOnto_31 ?_
        obtain ⟨q_10, h_q_10, hT⟩ := mx_bind hT
        refine mx_callV (As := [.int (q_3 - ((48 : Int32)))]) (rest := []) (st1 := []) (C := RX3) (T := TX3) (N := 11) (ci := 3) X Z hl.1 (c3_appendSegment l E hJ hy1 _ _ _ h_q_10) wd_6_0 wd_6_1 wd_6_2 wd_1_16 wd_6_3 hd3_appendSegment ⟨Nat.le_trans (by decide) hR.1, Nat.le_trans (by decide) hR.2⟩ ⟨Nat.zero_le _, Nat.zero_le _⟩ hy1.i (hy1.c _) rfl (Nat.le_of_ble_eq_true rfl) rfl rfl dX1_layOnto_32 (fun H locs Z => ?_)
        refine lv_goto (tgt := 48) hx hb dX1_layOnto_35 (by decide) ?_
        obtain ⟨v_11, e_v_11, hT⟩ := mx_nm hT
        refine lv_iinc (v := v_11) (lv' := [(2, .int (v_11)), (3, .int (q_3)), (0, .ref (mad E (241))), (1, .ref (mad E (y1)))]) hx hb dX1_layOnto_48 hl (k := 3) rfl (by rw [← e_v_11]; rfl) (by decide) rfl (fun ls hl => ?_)
        refine lv_goto (tgt := 6) hx hb dX1_layOnto_51 (by decide) ?_
        exact ih _ _ _ _ _ _ hT Z (lv_sub hl [2, 3, 0] rfl) k0
set_option maxHeartbeats 4000000 in
set_option maxRecDepth 100000 in
theorem c1_layOnto (l : Launch) (E : mE) (hJ : mJ E) {d1 : Nat} (hc : mTx E 241) (hd1 : mSt E d1) (G : mM) (q : mM) (hT : x1_layOnto d1 G = some q) : mMet l E yX1_layOnto cX1_layOnto 4 none 2 46 [.ref (mad E (241)), .ref (mad E (d1))] G (none) q := by
  refine Met.ofW (cc := cX1_layOnto) (maxL := 4) (ret := none) (by decide) rfl ?_
  intro p e s m args below meth cd s₁ B hml hv
  obtain ⟨rfl, hP, hK, hS⟩ := hv
  have X := mx_entry (own := RX1) B hml hK hJ hS rfl
  have hx := X.1
  have hb := X.2.1
  have hown := X.2.2.2.1
  have hts := X.2.2.2.2.1
  have hr := B.returns
  have hlocks := B.notSynchronized
  have hR : 2 ≤ (headSpec (mWs yX1_layOnto cX1_layOnto 4 none) ({ frames := 2, cells := 0, slots := 0, locals := 46 })).room.frames ∧ 46 ≤ (headSpec (mWs yX1_layOnto cX1_layOnto 4 none) ({ frames := 2, cells := 0, slots := 0, locals := 46 })).room.locals := ⟨Nat.le_refl _, Nat.le_refl _⟩
  have Z : mZ E s.heap s.heap [] G := ⟨hP, va_S.rf⟩
  have hl := lv_entry ([.ref (mad E (241)), .ref (mad E (d1))]) (n := 4) (Nat.le_of_ble_eq_true rfl)
  rw [lg_entry_eq]
  generalize (lg_sl ([.ref (mad E (241)), .ref (mad E (d1))]) ++ List.replicate (4 - (lg_sl ([.ref (mad E (241)), .ref (mad E (d1))])).length) Slot.unset).toArray = ls at hl ⊢
  have hl : lv_has ls 4 [(0, .ref (mad E (241))), (1, .ref (mad E (d1)))] := hl
  unfold x1_layOnto at hT
  refine lv_aload_n hx hb dX1_layOnto_0 rfl (lv_at hl 1 rfl) ?_
  obtain ⟨q_1, h_q_1, hT⟩ := mx_bind hT
  refine mx_callV (As := []) (rest := []) (st1 := []) (C := RX3) (T := TX3) (N := 11) (ci := 3) X Z hl.1 (c3_beginTrack l E hJ hd1 _ _ h_q_1) wd_5_12 wd_5_13 wd_5_14 wd_1_16 wd_5_15 hd3_beginTrack ⟨Nat.le_trans (by decide) hR.1, Nat.le_trans (by decide) hR.2⟩ ⟨Nat.zero_le _, Nat.zero_le _⟩ hd1.i (hd1.c _) rfl (Nat.le_of_ble_eq_true rfl) rfl rfl dX1_layOnto_1 (fun H locs Z => ?_)
  refine lv_iconst (v := (0 : Int32)) hx hb dX1_layOnto_4 (by decide) ?_
  refine lv_istore_n (lv' := [(2, .int ((0 : Int32))), (0, .ref (mad E (241))), (1, .ref (mad E (d1)))]) hx hb dX1_layOnto_5 rfl hl (by decide) rfl (fun ls hl => ?_)
  obtain ⟨q_12, h_q_12, hT⟩ := mx_bind hT
  refine k1_layOnto_6 X hR hJ hc hd1  _ _ _ _ _ _ _ h_q_12 Z (lv_sub (l' := [(0, .ref (mad E (241))), (1, .ref (mad E (d1))), (2, .int ((0 : Int32)))]) hl [1, 2, 0] rfl) (fun H locs ls Z hl => ?_)
  · refine lv_aload_n hx hb dX1_layOnto_54 rfl (lv_at hl 1 rfl) ?_
    obtain ⟨q_13, h_q_13, hT⟩ := mx_bind hT
    refine mx_callV (As := []) (rest := []) (st1 := []) (C := RX3) (T := TX3) (N := 11) (ci := 3) X Z hl.1 (c3_endTrack l E hJ hd1 _ _ h_q_13) wd_6_20 wd_6_21 wd_6_22 wd_1_16 wd_6_23 hd3_endTrack ⟨Nat.le_trans (by decide) hR.1, Nat.le_trans (by decide) hR.2⟩ ⟨Nat.zero_le _, Nat.zero_le _⟩ hd1.i (hd1.c _) rfl (Nat.le_of_ble_eq_true rfl) rfl rfl dX1_layOnto_55 (fun H locs Z => ?_)
    cases hT
    exact W.vret hx hb hr (fun t ht hW => mx_end Z t ht _) Z.2.2.2 dX1_layOnto_58
/-! PeatRailway.layTrack -/
def x5_layTrack (G : mM) : Option (Int32 × mM) :=
  (x1_firstFault G).bind fun q_1 =>
  if q_1 = ((-1 : Int32)) then
    (x0_remember 0 G).bind fun q_3 =>
    (x3_loseAllTrains 0 q_3).bind fun q_4 =>
    (x1_layOnto 0 q_4).bind fun q_5 =>
    (x1_wipe q_5).bind fun q_6 =>
    some (q_6 0 3, q_6)
  else
    some ((-3 : Int32), G)
theorem hd5_layTrack : yX5_layTrack.cls = RX5 ∧ yX5_layTrack.cls ≠ "java/lang/invoke/MethodHandle" ∧ yX5_layTrack.cls ≠ "java/lang/invoke/VarHandle" ∧ (parseMethodDescriptor yX5_layTrack.desc).map (fun d => d.parameters.length) = some 0 := by decide +kernel
set_option maxHeartbeats 4000000 in
set_option maxRecDepth 100000 in
theorem c5_layTrack (l : Launch) (E : mE) (hJ : mJ E) (hc : mAl E 240) (G : mM) (q : (Int32 × mM)) (hT : x5_layTrack G = some q) : mMet l E yX5_layTrack cX5_layTrack 1 (some .int) 3 69 [.ref (mad E (240))] G (some (.int q.1)) q.2 := by
  refine Met.ofW (cc := cX5_layTrack) (maxL := 1) (ret := (some .int)) (by decide) rfl ?_
  intro p e s m args below meth cd s₁ B hml hv
  obtain ⟨rfl, hP, hK, hS⟩ := hv
  have X := mx_entry (own := RX5) B hml hK hJ hS rfl
  have hx := X.1
  have hb := X.2.1
  have hown := X.2.2.2.1
  have hts := X.2.2.2.2.1
  have hr := B.returns
  have hlocks := B.notSynchronized
  have hR : 3 ≤ (headSpec (mWs yX5_layTrack cX5_layTrack 1 (some .int)) ({ frames := 3, cells := 0, slots := 0, locals := 69 })).room.frames ∧ 69 ≤ (headSpec (mWs yX5_layTrack cX5_layTrack 1 (some .int)) ({ frames := 3, cells := 0, slots := 0, locals := 69 })).room.locals := ⟨Nat.le_refl _, Nat.le_refl _⟩
  have Z : mZ E s.heap s.heap [] G := ⟨hP, va_S.rf⟩
  have hl := lv_entry ([.ref (mad E (240))]) (n := 1) (Nat.le_of_ble_eq_true rfl)
  rw [lg_entry_eq]
  generalize (lg_sl ([.ref (mad E (240))]) ++ List.replicate (1 - (lg_sl ([.ref (mad E (240))])).length) Slot.unset).toArray = ls at hl ⊢
  have hl : lv_has ls 1 [(0, .ref (mad E (240)))] := hl
  unfold x5_layTrack at hT
  refine lv_aload_n hx hb dX5_layTrack_0 rfl (lv_at hl 0 rfl) ?_
  refine mx_get (v := .ref (mad E (241))) (ci := 5) (C := RX5) (T := TX5) (N := 6) X Z hc.i (hc.c _) rfl inlX5 0 (by decide) wd_1_17 rfl dX5_layTrack_1 ?_
  obtain ⟨q_1, h_q_1, hT⟩ := mx_bind hT
  refine mx_callV (As := []) (rest := []) (st1 := [.int (q_1)]) (C := RX1) (T := TX1) (N := 2) (ci := 1) X Z hl.1 (c1_firstFault l E hJ hc.tx _ _ h_q_1) wd_21_15 wd_21_16 wd_21_17 wd_1_13 wd_21_18 hd1_firstFault ⟨Nat.le_trans (by decide) hR.1, Nat.le_trans (by decide) hR.2⟩ ⟨Nat.zero_le _, Nat.zero_le _⟩ hc.tx.i (hc.tx.c _) rfl (Nat.le_of_ble_eq_true rfl) rfl rfl dX5_layTrack_4 (fun H locs Z => ?_)
  refine lv_iconst (v := (-1 : Int32)) hx hb dX5_layTrack_7 (by decide) ?_
  refine lv_icmp_eq (tgt := 14) hx hb dX5_layTrack_8 (by decide) (fun h_2 => ?_) (fun h_2 => ?_)
  · replace hT := mx_t hT h_2
    refine lv_aload_n hx hb dX5_layTrack_14 rfl (lv_at hl 0 rfl) ?_
    refine mx_get (v := .ref (mad E (243))) (ci := 5) (C := RX5) (T := TX5) (N := 6) X Z hc.i (hc.c _) rfl inlX5 3 (by decide) wd_1_23 rfl dX5_layTrack_15 ?_
    refine lv_aload_n hx hb dX5_layTrack_18 rfl (lv_at hl 0 rfl) ?_
    refine mx_get (v := .ref (mad E (0))) (ci := 5) (C := RX5) (T := TX5) (N := 6) X Z hc.i (hc.c _) rfl inlX5 1 (by decide) wd_1_18 rfl dX5_layTrack_19 ?_
    obtain ⟨q_3, h_q_3, hT⟩ := mx_bind hT
    refine mx_callV (As := [.ref (mad E (0))]) (rest := []) (st1 := []) (C := RX0) (T := TX0) (N := 2) (ci := 0) X Z hl.1 (c0_remember l E hJ hc.hi hc.now _ _ h_q_3) wd_9_20 wd_9_21 wd_9_22 wd_1_22 wd_9_23 hd0_remember ⟨Nat.le_trans (by decide) hR.1, Nat.le_trans (by decide) hR.2⟩ ⟨Nat.zero_le _, Nat.zero_le _⟩ hc.hi.i (hc.hi.c _) rfl (Nat.le_of_ble_eq_true rfl) rfl rfl dX5_layTrack_22 (fun H locs Z => ?_)
    refine lv_aload_n hx hb dX5_layTrack_25 rfl (lv_at hl 0 rfl) ?_
    refine mx_get (v := .ref (mad E (0))) (ci := 5) (C := RX5) (T := TX5) (N := 6) X Z hc.i (hc.c _) rfl inlX5 1 (by decide) wd_1_18 rfl dX5_layTrack_26 ?_
    obtain ⟨q_4, h_q_4, hT⟩ := mx_bind hT
    refine mx_callV (As := []) (rest := []) (st1 := []) (C := RX3) (T := TX3) (N := 11) (ci := 3) X Z hl.1 (c3_loseAllTrains l E hJ hc.now _ _ h_q_4) wd_22_10 wd_22_11 wd_22_12 wd_1_16 wd_22_13 hd3_loseAllTrains ⟨Nat.le_trans (by decide) hR.1, Nat.le_trans (by decide) hR.2⟩ ⟨Nat.zero_le _, Nat.zero_le _⟩ hc.now.i (hc.now.c _) rfl (Nat.le_of_ble_eq_true rfl) rfl rfl dX5_layTrack_29 (fun H locs Z => ?_)
    refine lv_aload_n hx hb dX5_layTrack_32 rfl (lv_at hl 0 rfl) ?_
    refine mx_get (v := .ref (mad E (241))) (ci := 5) (C := RX5) (T := TX5) (N := 6) X Z hc.i (hc.c _) rfl inlX5 0 (by decide) wd_1_17 rfl dX5_layTrack_33 ?_
    refine lv_aload_n hx hb dX5_layTrack_36 rfl (lv_at hl 0 rfl) ?_
    refine mx_get (v := .ref (mad E (0))) (ci := 5) (C := RX5) (T := TX5) (N := 6) X Z hc.i (hc.c _) rfl inlX5 1 (by decide) wd_1_18 rfl dX5_layTrack_37 ?_
    obtain ⟨q_5, h_q_5, hT⟩ := mx_bind hT
    refine mx_callV (As := [.ref (mad E (0))]) (rest := []) (st1 := []) (C := RX1) (T := TX1) (N := 2) (ci := 1) X Z hl.1 (c1_layOnto l E hJ hc.tx hc.now _ _ h_q_5) wd_5_8 wd_5_9 wd_5_10 wd_1_13 wd_5_11 hd1_layOnto ⟨Nat.le_trans (by decide) hR.1, Nat.le_trans (by decide) hR.2⟩ ⟨Nat.zero_le _, Nat.zero_le _⟩ hc.tx.i (hc.tx.c _) rfl (Nat.le_of_ble_eq_true rfl) rfl rfl dX5_layTrack_40 (fun H locs Z => ?_)
    refine lv_aload_n hx hb dX5_layTrack_43 rfl (lv_at hl 0 rfl) ?_
    refine mx_get (v := .ref (mad E (241))) (ci := 5) (C := RX5) (T := TX5) (N := 6) X Z hc.i (hc.c _) rfl inlX5 0 (by decide) wd_1_17 rfl dX5_layTrack_44 ?_
    obtain ⟨q_6, h_q_6, hT⟩ := mx_bind hT
    refine mx_callV (As := []) (rest := []) (st1 := []) (C := RX1) (T := TX1) (N := 2) (ci := 1) X Z hl.1 (c1_wipe l E hJ hc.tx _ _ h_q_6) wd_7_6 wd_7_7 wd_7_8 wd_1_13 wd_7_9 hd1_wipe ⟨Nat.le_trans (by decide) hR.1, Nat.le_trans (by decide) hR.2⟩ ⟨Nat.zero_le _, Nat.zero_le _⟩ hc.tx.i (hc.tx.c _) rfl (Nat.le_of_ble_eq_true rfl) rfl rfl dX5_layTrack_47 (fun H locs Z => ?_)
    refine lv_aload_n hx hb dX5_layTrack_50 rfl (lv_at hl 0 rfl) ?_
    refine mx_get (v := .ref (mad E (0))) (ci := 5) (C := RX5) (T := TX5) (N := 6) X Z hc.i (hc.c _) rfl inlX5 1 (by decide) wd_1_18 rfl dX5_layTrack_51 ?_
    refine mx_get (v := .int (q_6 0 3)) (ci := 3) (C := RX3) (T := TX3) (N := 11) X Z hc.now.i (hc.now.c _) rfl inlX3 3 (by decide) wd_15_14 rfl dX5_layTrack_54 ?_
    cases hT
    exact W.iret hx hb hr (fun t ht hW => mx_end Z t ht _) Z.2.2.2 dX5_layTrack_57
  · replace hT := mx_f hT h_2
    refine lv_bipush (v := (-3 : Int32)) hx hb dX5_layTrack_11 (by decide) ?_
    cases hT
    exact W.iret hx hb hr (fun t ht hW => mx_end Z t ht _) Z.2.2.2 dX5_layTrack_13
/-! PeatRailway.isSetting -/
def x5_isSetting (x0 : Int32) (G : mM) : Option Int32 :=
  if x0 < 0 then
    some ((0 : Int32))
  else
    if ((3 : Int32)) ≤ x0 then
      some ((0 : Int32))
    else
      some ((1 : Int32))
theorem hd5_isSetting : yX5_isSetting.cls ≠ "java/lang/invoke/MethodHandle" ∧ yX5_isSetting.cls ≠ "java/lang/invoke/VarHandle" ∧ (parseMethodDescriptor yX5_isSetting.desc).map (fun d => d.parameters.length) = some 1 := by decide +kernel
set_option maxHeartbeats 4000000 in
set_option maxRecDepth 100000 in
theorem c5_isSetting (l : Launch) (E : mE) (hJ : mJ E) (x0 : Int32) (G : mM) (q : Int32) (hT : x5_isSetting x0 G = some q) : mMet l E yX5_isSetting cX5_isSetting 1 (some .boolean) 0 0 [.int (x0)] G (some (.int q)) G := by
  refine Met.ofW (cc := cX5_isSetting) (maxL := 1) (ret := (some .boolean)) (by decide) rfl ?_
  intro p e s m args below meth cd s₁ B hml hv
  obtain ⟨rfl, hP, hK, hS⟩ := hv
  have X := mx_entry (own := RX5) B hml hK hJ hS rfl
  have hx := X.1
  have hb := X.2.1
  have hown := X.2.2.2.1
  have hts := X.2.2.2.2.1
  have hr := B.returns
  have hlocks := B.notSynchronized
  have hR : 0 ≤ (headSpec (mWs yX5_isSetting cX5_isSetting 1 (some .boolean)) ({ frames := 0, cells := 0, slots := 0, locals := 0 })).room.frames ∧ 0 ≤ (headSpec (mWs yX5_isSetting cX5_isSetting 1 (some .boolean)) ({ frames := 0, cells := 0, slots := 0, locals := 0 })).room.locals := ⟨Nat.le_refl _, Nat.le_refl _⟩
  have Z : mZ E s.heap s.heap [] G := ⟨hP, va_S.rf⟩
  have hl := lv_entry ([.int (x0)]) (n := 1) (Nat.le_of_ble_eq_true rfl)
  rw [lg_entry_eq]
  generalize (lg_sl ([.int (x0)]) ++ List.replicate (1 - (lg_sl ([.int (x0)])).length) Slot.unset).toArray = ls at hl ⊢
  have hl : lv_has ls 1 [(0, .int (x0))] := hl
  unfold x5_isSetting at hT
  refine lv_iload_n hx hb dX5_isSetting_0 rfl (lv_at hl 0 rfl) ?_
  refine lv_if_lt (tgt := 13) hx hb dX5_isSetting_1 (by decide) (fun h_1 => ?_) (fun h_1 => ?_)
  · replace hT := mx_t hT h_1
    refine lv_iconst (v := (0 : Int32)) hx hb dX5_isSetting_13 (by decide) ?_
    cases hT
    exact W.zret (v := (0 : Int32)) hx hb hr rfl (fun t ht hW => mx_end Z t ht _) Z.2.2.2 dX5_isSetting_14
  · replace hT := mx_f hT h_1
    refine lv_iload_n hx hb dX5_isSetting_4 rfl (lv_at hl 0 rfl) ?_
    refine lv_iconst (v := (3 : Int32)) hx hb dX5_isSetting_5 (by decide) ?_
    refine lv_icmp_ge (tgt := 13) hx hb dX5_isSetting_6 (by decide) (fun h_2 => ?_) (fun h_2 => ?_)
    · replace hT := mx_t hT h_2
      refine lv_iconst (v := (0 : Int32)) hx hb dX5_isSetting_13 (by decide) ?_
      cases hT
      exact W.zret (v := (0 : Int32)) hx hb hr rfl (fun t ht hW => mx_end Z t ht _) Z.2.2.2 dX5_isSetting_14
    · replace hT := mx_f hT h_2
      refine lv_iconst (v := (1 : Int32)) hx hb dX5_isSetting_9 (by decide) ?_
      refine lv_goto (tgt := 14) hx hb dX5_isSetting_10 (by decide) ?_
      cases hT
      exact W.zret (v := (1 : Int32)) hx hb hr rfl (fun t ht hW => mx_end Z t ht _) Z.2.2.2 dX5_isSetting_14
/-! PeatRailway.set -/
def x5_set (x1 : Int32) (x2 : Int32) (G : mM) : Option (Int32 × mM) :=
  (x5_isSetting x1 G).bind fun q_1 =>
  if q_1 = 0 then
    some ((-2 : Int32), G)
  else
    mCk (mIn x1 3) <|
    if x2 < (mStat 1 x1.toNatClampNeg) then
      some ((-2 : Int32), G)
    else
      mCk (mIn x1 3) <|
      if x2 ≤ (mStat 2 x1.toNatClampNeg) then
        (x0_remember 0 G).bind fun q_9 =>
        mCk (mIn x1 3) <|
        mNm (q_9 ((0 + 3)) x1.toNatClampNeg) fun v_11 =>
        mCk (mIn x1 3) <|
        mNm (up2 q_9 ((0 + 3)) x1.toNatClampNeg x2) fun G_13 =>
        some (v_11, G_13)
      else
        some ((-2 : Int32), G)
theorem hd5_set : yX5_set.cls = RX5 ∧ yX5_set.cls ≠ "java/lang/invoke/MethodHandle" ∧ yX5_set.cls ≠ "java/lang/invoke/VarHandle" ∧ (parseMethodDescriptor yX5_set.desc).map (fun d => d.parameters.length) = some 2 := by decide +kernel
set_option maxHeartbeats 4000000 in
set_option maxRecDepth 100000 in
theorem c5_set (l : Launch) (E : mE) (hJ : mJ E) (hc : mAl E 240) (x1 : Int32) (x2 : Int32) (G : mM) (q : (Int32 × mM)) (hT : x5_set x1 x2 G = some q) : mMet l E yX5_set cX5_set 4 (some .int) 3 64 [.ref (mad E (240)), .int (x1), .int (x2)] G (some (.int q.1)) q.2 := by
  refine Met.ofW (cc := cX5_set) (maxL := 4) (ret := (some .int)) (by decide) rfl ?_
  intro p e s m args below meth cd s₁ B hml hv
  obtain ⟨rfl, hP, hK, hS⟩ := hv
  have X := mx_entry (own := RX5) B hml hK hJ hS rfl
  have hx := X.1
  have hb := X.2.1
  have hown := X.2.2.2.1
  have hts := X.2.2.2.2.1
  have hr := B.returns
  have hlocks := B.notSynchronized
  have hR : 3 ≤ (headSpec (mWs yX5_set cX5_set 4 (some .int)) ({ frames := 3, cells := 0, slots := 0, locals := 64 })).room.frames ∧ 64 ≤ (headSpec (mWs yX5_set cX5_set 4 (some .int)) ({ frames := 3, cells := 0, slots := 0, locals := 64 })).room.locals := ⟨Nat.le_refl _, Nat.le_refl _⟩
  have Z : mZ E s.heap s.heap [] G := ⟨hP, va_S.rf⟩
  have hl := lv_entry ([.ref (mad E (240)), .int (x1), .int (x2)]) (n := 4) (Nat.le_of_ble_eq_true rfl)
  rw [lg_entry_eq]
  generalize (lg_sl ([.ref (mad E (240)), .int (x1), .int (x2)]) ++ List.replicate (4 - (lg_sl ([.ref (mad E (240)), .int (x1), .int (x2)])).length) Slot.unset).toArray = ls at hl ⊢
  have hl : lv_has ls 4 [(0, .ref (mad E (240))), (1, .int (x1)), (2, .int (x2))] := hl
  unfold x5_set at hT
  refine lv_iload_n hx hb dX5_set_0 rfl (lv_at hl 1 rfl) ?_
  obtain ⟨q_1, h_q_1, hT⟩ := mx_bind hT
  refine mx_callS (As := [.int (x1)]) (rest := []) (st1 := [.int (q_1)]) X Z hl.1 (c5_isSetting l E hJ _ _ _ h_q_1) wd_14_15 wd_14_16 wd_1_2 wd_14_17 hd5_isSetting ⟨Nat.le_trans (by decide) hR.1, Nat.le_trans (by decide) hR.2⟩ ⟨Nat.zero_le _, Nat.zero_le _⟩ (Nat.le_of_ble_eq_true rfl) rfl rfl dX5_set_1 (fun H locs Z => ?_)
  refine lv_if_eq (tgt := 25) hx hb dX5_set_4 (by decide) (fun h_2 => ?_) (fun h_2 => ?_)
  · replace hT := mx_t hT h_2
    refine lv_bipush (v := (-2 : Int32)) hx hb dX5_set_25 (by decide) ?_
    cases hT
    exact W.iret hx hb hr (fun t ht hW => mx_end Z t ht _) Z.2.2.2 dX5_set_27
  · replace hT := mx_f hT h_2
    refine lv_iload_n hx hb dX5_set_7 rfl (lv_at hl 2 rfl) ?_
    refine mx_stat (i := 1) X Z (by decide) wd_20_22 dX5_set_8 (fun t_s_3 hs_s_3 => ?_)
    refine lv_iload_n hx hb dX5_set_11 rfl (lv_at hl 1 rfl) ?_
    obtain ⟨h_4, hT⟩ := mx_chk hT
    refine va_ti hx hb hs_s_3 Z.2 h_4 (v := .int (mStat 1 x1.toNatClampNeg)) rfl dX5_set_12 ?_
    refine lv_icmp_lt (tgt := 25) hx hb dX5_set_13 (by decide) (fun h_5 => ?_) (fun h_5 => ?_)
    · replace hT := mx_t hT h_5
      refine lv_bipush (v := (-2 : Int32)) hx hb dX5_set_25 (by decide) ?_
      cases hT
      exact W.iret hx hb hr (fun t ht hW => mx_end Z t ht _) Z.2.2.2 dX5_set_27
    · replace hT := mx_f hT h_5
      refine lv_iload_n hx hb dX5_set_16 rfl (lv_at hl 2 rfl) ?_
      refine mx_stat (i := 2) X Z (by decide) wd_20_23 dX5_set_17 (fun t_s_6 hs_s_6 => ?_)
      refine lv_iload_n hx hb dX5_set_20 rfl (lv_at hl 1 rfl) ?_
      obtain ⟨h_7, hT⟩ := mx_chk hT
      refine va_ti hx hb hs_s_6 Z.2 h_7 (v := .int (mStat 2 x1.toNatClampNeg)) rfl dX5_set_21 ?_
      refine lv_icmp_le (tgt := 28) hx hb dX5_set_22 (by decide) (fun h_8 => ?_) (fun h_8 => ?_)
      · replace hT := mx_t hT h_8
        refine lv_aload_n hx hb dX5_set_28 rfl (lv_at hl 0 rfl) ?_
        refine mx_get (v := .ref (mad E (243))) (ci := 5) (C := RX5) (T := TX5) (N := 6) X Z hc.i (hc.c _) rfl inlX5 3 (by decide) wd_1_23 rfl dX5_set_29 ?_
        refine lv_aload_n hx hb dX5_set_32 rfl (lv_at hl 0 rfl) ?_
        refine mx_get (v := .ref (mad E (0))) (ci := 5) (C := RX5) (T := TX5) (N := 6) X Z hc.i (hc.c _) rfl inlX5 1 (by decide) wd_1_18 rfl dX5_set_33 ?_
        obtain ⟨q_9, h_q_9, hT⟩ := mx_bind hT
        refine mx_callV (As := [.ref (mad E (0))]) (rest := []) (st1 := []) (C := RX0) (T := TX0) (N := 2) (ci := 0) X Z hl.1 (c0_remember l E hJ hc.hi hc.now _ _ h_q_9) wd_9_20 wd_9_21 wd_9_22 wd_1_22 wd_9_23 hd0_remember ⟨Nat.le_trans (by decide) hR.1, Nat.le_trans (by decide) hR.2⟩ ⟨Nat.zero_le _, Nat.zero_le _⟩ hc.hi.i (hc.hi.c _) rfl (Nat.le_of_ble_eq_true rfl) rfl rfl dX5_set_36 (fun H locs Z => ?_)
        refine lv_aload_n hx hb dX5_set_39 rfl (lv_at hl 0 rfl) ?_
        refine mx_get (v := .ref (mad E (0))) (ci := 5) (C := RX5) (T := TX5) (N := 6) X Z hc.i (hc.c _) rfl inlX5 1 (by decide) wd_1_18 rfl dX5_set_40 ?_
        refine mx_get (v := .ref (mad E ((0 + 3)))) (ci := 3) (C := RX3) (T := TX3) (N := 11) X Z hc.now.i (hc.now.c _) rfl inlX3 2 (by decide) wd_10_16 rfl dX5_set_43 ?_
        refine lv_iload_n hx hb dX5_set_46 rfl (lv_at hl 1 rfl) ?_
        obtain ⟨h_10, hT⟩ := mx_chk hT
        refine mx_iald X Z hc.now.sets h_10 dX5_set_47 ?_
        obtain ⟨v_11, e_v_11, hT⟩ := mx_nm hT
        refine mx_tops (congrArg (fun z => (.int (z) :: [] : List Value)) e_v_11) ?_
        refine lv_istore_n (lv' := [(3, .int (v_11)), (0, .ref (mad E (240))), (1, .int (x1)), (2, .int (x2))]) hx hb dX5_set_48 rfl hl (by decide) rfl (fun ls hl => ?_)
        refine lv_aload_n hx hb dX5_set_49 rfl (lv_at hl 1 rfl) ?_
        refine mx_get (v := .ref (mad E (0))) (ci := 5) (C := RX5) (T := TX5) (N := 6) X Z hc.i (hc.c _) rfl inlX5 1 (by decide) wd_1_18 rfl dX5_set_50 ?_
        refine mx_get (v := .ref (mad E ((0 + 3)))) (ci := 3) (C := RX3) (T := TX3) (N := 11) X Z hc.now.i (hc.now.c _) rfl inlX3 2 (by decide) wd_10_16 rfl dX5_set_53 ?_
        refine lv_iload_n hx hb dX5_set_56 rfl (lv_at hl 2 rfl) ?_
        refine lv_iload_n hx hb dX5_set_57 rfl (lv_at hl 3 rfl) ?_
        obtain ⟨h_12, hT⟩ := mx_chk hT
        obtain ⟨G_13, e_G_13, hT⟩ := mx_nm hT
        refine mx_iast X Z hc.now.sets h_12 dX5_set_58 (fun H locs Z => ?_)
        rw [e_G_13] at Z
        refine lv_iload_n hx hb dX5_set_59 rfl (lv_at hl 0 rfl) ?_
        cases hT
        exact W.iret hx hb hr (fun t ht hW => mx_end Z t ht _) Z.2.2.2 dX5_set_60
      · replace hT := mx_f hT h_8
        refine lv_bipush (v := (-2 : Int32)) hx hb dX5_set_25 (by decide) ?_
        cases hT
        exact W.iret hx hb hr (fun t ht hW => mx_end Z t ht _) Z.2.2.2 dX5_set_27
/-! PeatRailway.dig -/
def x5_dig (x1 : Int32) (G : mM) : Option (Int32 × mM) :=
  if x1 < ((1 : Int32)) then
    some ((-2 : Int32), G)
  else
    if x1 ≤ ((1000 : Int32)) then
      if ((G 0 5) + x1) ≤ ((5000 : Int32)) then
        (x0_remember 0 G).bind fun q_4 =>
        mNm (up2 q_4 0 5 ((q_4 0 5) + x1)) fun G_5 =>
        mNm (up2 G_5 0 6 ((G_5 0 6) + x1)) fun G_6 =>
        some (G_6 0 5, G_6)
      else
        some ((-4 : Int32), G)
    else
      some ((-2 : Int32), G)
theorem hd5_dig : yX5_dig.cls = RX5 ∧ yX5_dig.cls ≠ "java/lang/invoke/MethodHandle" ∧ yX5_dig.cls ≠ "java/lang/invoke/VarHandle" ∧ (parseMethodDescriptor yX5_dig.desc).map (fun d => d.parameters.length) = some 1 := by decide +kernel
set_option maxHeartbeats 4000000 in
set_option maxRecDepth 100000 in
theorem c5_dig (l : Launch) (E : mE) (hJ : mJ E) (hc : mAl E 240) (x1 : Int32) (G : mM) (q : (Int32 × mM)) (hT : x5_dig x1 G = some q) : mMet l E yX5_dig cX5_dig 2 (some .int) 3 64 [.ref (mad E (240)), .int (x1)] G (some (.int q.1)) q.2 := by
  refine Met.ofW (cc := cX5_dig) (maxL := 2) (ret := (some .int)) (by decide) rfl ?_
  intro p e s m args below meth cd s₁ B hml hv
  obtain ⟨rfl, hP, hK, hS⟩ := hv
  have X := mx_entry (own := RX5) B hml hK hJ hS rfl
  have hx := X.1
  have hb := X.2.1
  have hown := X.2.2.2.1
  have hts := X.2.2.2.2.1
  have hr := B.returns
  have hlocks := B.notSynchronized
  have hR : 3 ≤ (headSpec (mWs yX5_dig cX5_dig 2 (some .int)) ({ frames := 3, cells := 0, slots := 0, locals := 64 })).room.frames ∧ 64 ≤ (headSpec (mWs yX5_dig cX5_dig 2 (some .int)) ({ frames := 3, cells := 0, slots := 0, locals := 64 })).room.locals := ⟨Nat.le_refl _, Nat.le_refl _⟩
  have Z : mZ E s.heap s.heap [] G := ⟨hP, va_S.rf⟩
  have hl := lv_entry ([.ref (mad E (240)), .int (x1)]) (n := 2) (Nat.le_of_ble_eq_true rfl)
  rw [lg_entry_eq]
  generalize (lg_sl ([.ref (mad E (240)), .int (x1)]) ++ List.replicate (2 - (lg_sl ([.ref (mad E (240)), .int (x1)])).length) Slot.unset).toArray = ls at hl ⊢
  have hl : lv_has ls 2 [(0, .ref (mad E (240))), (1, .int (x1))] := hl
  unfold x5_dig at hT
  refine lv_iload_n hx hb dX5_dig_0 rfl (lv_at hl 1 rfl) ?_
  refine lv_iconst (v := (1 : Int32)) hx hb dX5_dig_1 (by decide) ?_
  refine lv_icmp_lt (tgt := 12) hx hb dX5_dig_2 (by decide) (fun h_1 => ?_) (fun h_1 => ?_)
  · replace hT := mx_t hT h_1
    refine lv_bipush (v := (-2 : Int32)) hx hb dX5_dig_12 (by decide) ?_
    cases hT
    exact W.iret hx hb hr (fun t ht hW => mx_end Z t ht _) Z.2.2.2 dX5_dig_14
  · replace hT := mx_f hT h_1
    refine lv_iload_n hx hb dX5_dig_5 rfl (lv_at hl 1 rfl) ?_
    refine lv_sipush (v := (1000 : Int32)) hx hb dX5_dig_6 (by decide) ?_
    refine lv_icmp_le (tgt := 15) hx hb dX5_dig_9 (by decide) (fun h_2 => ?_) (fun h_2 => ?_)
    · replace hT := mx_t hT h_2
      refine lv_aload_n hx hb dX5_dig_15 rfl (lv_at hl 0 rfl) ?_
      refine mx_get (v := .ref (mad E (0))) (ci := 5) (C := RX5) (T := TX5) (N := 6) X Z hc.i (hc.c _) rfl inlX5 1 (by decide) wd_1_18 rfl dX5_dig_16 ?_
      refine mx_get (v := .int (G 0 5)) (ci := 3) (C := RX3) (T := TX3) (N := 11) X Z hc.now.i (hc.now.c _) rfl inlX3 5 (by decide) wd_14_23 rfl dX5_dig_19 ?_
      refine lv_iload_n hx hb dX5_dig_22 rfl (lv_at hl 1 rfl) ?_
      refine lv_iadd hx hb dX5_dig_23 ?_
      refine lv_sipush (v := (5000 : Int32)) hx hb dX5_dig_24 (by decide) ?_
      refine lv_icmp_le (tgt := 33) hx hb dX5_dig_27 (by decide) (fun h_3 => ?_) (fun h_3 => ?_)
      · replace hT := mx_t hT h_3
        refine lv_aload_n hx hb dX5_dig_33 rfl (lv_at hl 0 rfl) ?_
        refine mx_get (v := .ref (mad E (243))) (ci := 5) (C := RX5) (T := TX5) (N := 6) X Z hc.i (hc.c _) rfl inlX5 3 (by decide) wd_1_23 rfl dX5_dig_34 ?_
        refine lv_aload_n hx hb dX5_dig_37 rfl (lv_at hl 0 rfl) ?_
        refine mx_get (v := .ref (mad E (0))) (ci := 5) (C := RX5) (T := TX5) (N := 6) X Z hc.i (hc.c _) rfl inlX5 1 (by decide) wd_1_18 rfl dX5_dig_38 ?_
        obtain ⟨q_4, h_q_4, hT⟩ := mx_bind hT
        refine mx_callV (As := [.ref (mad E (0))]) (rest := []) (st1 := []) (C := RX0) (T := TX0) (N := 2) (ci := 0) X Z hl.1 (c0_remember l E hJ hc.hi hc.now _ _ h_q_4) wd_9_20 wd_9_21 wd_9_22 wd_1_22 wd_9_23 hd0_remember ⟨Nat.le_trans (by decide) hR.1, Nat.le_trans (by decide) hR.2⟩ ⟨Nat.zero_le _, Nat.zero_le _⟩ hc.hi.i (hc.hi.c _) rfl (Nat.le_of_ble_eq_true rfl) rfl rfl dX5_dig_41 (fun H locs Z => ?_)
        refine lv_aload_n hx hb dX5_dig_44 rfl (lv_at hl 0 rfl) ?_
        refine mx_get (v := .ref (mad E (0))) (ci := 5) (C := RX5) (T := TX5) (N := 6) X Z hc.i (hc.c _) rfl inlX5 1 (by decide) wd_1_18 rfl dX5_dig_45 ?_
        refine lv_dup hx hb dX5_dig_48 rfl ?_
        refine mx_get (v := .int (q_4 0 5)) (ci := 3) (C := RX3) (T := TX3) (N := 11) X Z hc.now.i (hc.now.c _) rfl inlX3 5 (by decide) wd_14_23 rfl dX5_dig_49 ?_
        refine lv_iload_n hx hb dX5_dig_52 rfl (lv_at hl 1 rfl) ?_
        refine lv_iadd hx hb dX5_dig_53 ?_
        obtain ⟨G_5, e_G_5, hT⟩ := mx_nm hT
        refine mx_put (ci := 3) (C := RX3) (T := TX3) (N := 11) X Z hc.now.i (hc.now.c _) rfl inlX3 tyX3 tyX3_ok nmX3 5 (by decide) wd_14_23 rfl rfl rfl (by show 5 < 11; decide) ((hc.now.c _).trans (congrArg (fun z => Sum.inr (3, z)) (sp_St_5 (mad E) _ _ _))) dX5_dig_54 (fun H locs Z => ?_)
        rw [e_G_5] at Z
        refine lv_aload_n hx hb dX5_dig_57 rfl (lv_at hl 0 rfl) ?_
        refine mx_get (v := .ref (mad E (0))) (ci := 5) (C := RX5) (T := TX5) (N := 6) X Z hc.i (hc.c _) rfl inlX5 1 (by decide) wd_1_18 rfl dX5_dig_58 ?_
        refine lv_dup hx hb dX5_dig_61 rfl ?_
        refine mx_get (v := .int (G_5 0 6)) (ci := 3) (C := RX3) (T := TX3) (N := 11) X Z hc.now.i (hc.now.c _) rfl inlX3 6 (by decide) wd_14_22 rfl dX5_dig_62 ?_
        refine lv_iload_n hx hb dX5_dig_65 rfl (lv_at hl 1 rfl) ?_
        refine lv_iadd hx hb dX5_dig_66 ?_
        obtain ⟨G_6, e_G_6, hT⟩ := mx_nm hT
        refine mx_put (ci := 3) (C := RX3) (T := TX3) (N := 11) X Z hc.now.i (hc.now.c _) rfl inlX3 tyX3 tyX3_ok nmX3 6 (by decide) wd_14_22 rfl rfl rfl (by show 6 < 11; decide) ((hc.now.c _).trans (congrArg (fun z => Sum.inr (3, z)) (sp_St_6 (mad E) _ _ _))) dX5_dig_67 (fun H locs Z => ?_)
        rw [e_G_6] at Z
        refine lv_aload_n hx hb dX5_dig_70 rfl (lv_at hl 0 rfl) ?_
        refine mx_get (v := .ref (mad E (0))) (ci := 5) (C := RX5) (T := TX5) (N := 6) X Z hc.i (hc.c _) rfl inlX5 1 (by decide) wd_1_18 rfl dX5_dig_71 ?_
        refine mx_get (v := .int (G_6 0 5)) (ci := 3) (C := RX3) (T := TX3) (N := 11) X Z hc.now.i (hc.now.c _) rfl inlX3 5 (by decide) wd_14_23 rfl dX5_dig_74 ?_
        cases hT
        exact W.iret hx hb hr (fun t ht hW => mx_end Z t ht _) Z.2.2.2 dX5_dig_77
      · replace hT := mx_f hT h_3
        refine lv_bipush (v := (-4 : Int32)) hx hb dX5_dig_30 (by decide) ?_
        cases hT
        exact W.iret hx hb hr (fun t ht hW => mx_end Z t ht _) Z.2.2.2 dX5_dig_32
    · replace hT := mx_f hT h_2
      refine lv_bipush (v := (-2 : Int32)) hx hb dX5_dig_12 (by decide) ?_
      cases hT
      exact W.iret hx hb hr (fun t ht hW => mx_end Z t ht _) Z.2.2.2 dX5_dig_14
/-! PeatRailway.isLoad -/
def x5_isLoad (x0 : Int32) (G : mM) : Option Int32 :=
  if x0 < ((1 : Int32)) then
    some ((0 : Int32))
  else
    if ((20 : Int32)) < x0 then
      some ((0 : Int32))
    else
      some ((1 : Int32))
theorem hd5_isLoad : yX5_isLoad.cls ≠ "java/lang/invoke/MethodHandle" ∧ yX5_isLoad.cls ≠ "java/lang/invoke/VarHandle" ∧ (parseMethodDescriptor yX5_isLoad.desc).map (fun d => d.parameters.length) = some 1 := by decide +kernel
set_option maxHeartbeats 4000000 in
set_option maxRecDepth 100000 in
theorem c5_isLoad (l : Launch) (E : mE) (hJ : mJ E) (x0 : Int32) (G : mM) (q : Int32) (hT : x5_isLoad x0 G = some q) : mMet l E yX5_isLoad cX5_isLoad 1 (some .boolean) 0 0 [.int (x0)] G (some (.int q)) G := by
  refine Met.ofW (cc := cX5_isLoad) (maxL := 1) (ret := (some .boolean)) (by decide) rfl ?_
  intro p e s m args below meth cd s₁ B hml hv
  obtain ⟨rfl, hP, hK, hS⟩ := hv
  have X := mx_entry (own := RX5) B hml hK hJ hS rfl
  have hx := X.1
  have hb := X.2.1
  have hown := X.2.2.2.1
  have hts := X.2.2.2.2.1
  have hr := B.returns
  have hlocks := B.notSynchronized
  have hR : 0 ≤ (headSpec (mWs yX5_isLoad cX5_isLoad 1 (some .boolean)) ({ frames := 0, cells := 0, slots := 0, locals := 0 })).room.frames ∧ 0 ≤ (headSpec (mWs yX5_isLoad cX5_isLoad 1 (some .boolean)) ({ frames := 0, cells := 0, slots := 0, locals := 0 })).room.locals := ⟨Nat.le_refl _, Nat.le_refl _⟩
  have Z : mZ E s.heap s.heap [] G := ⟨hP, va_S.rf⟩
  have hl := lv_entry ([.int (x0)]) (n := 1) (Nat.le_of_ble_eq_true rfl)
  rw [lg_entry_eq]
  generalize (lg_sl ([.int (x0)]) ++ List.replicate (1 - (lg_sl ([.int (x0)])).length) Slot.unset).toArray = ls at hl ⊢
  have hl : lv_has ls 1 [(0, .int (x0))] := hl
  unfold x5_isLoad at hT
  refine lv_iload_n hx hb dX5_isLoad_0 rfl (lv_at hl 0 rfl) ?_
  refine lv_iconst (v := (1 : Int32)) hx hb dX5_isLoad_1 (by decide) ?_
  refine lv_icmp_lt (tgt := 15) hx hb dX5_isLoad_2 (by decide) (fun h_1 => ?_) (fun h_1 => ?_)
  · replace hT := mx_t hT h_1
    refine lv_iconst (v := (0 : Int32)) hx hb dX5_isLoad_15 (by decide) ?_
    cases hT
    exact W.zret (v := (0 : Int32)) hx hb hr rfl (fun t ht hW => mx_end Z t ht _) Z.2.2.2 dX5_isLoad_16
  · replace hT := mx_f hT h_1
    refine lv_iload_n hx hb dX5_isLoad_5 rfl (lv_at hl 0 rfl) ?_
    refine lv_bipush (v := (20 : Int32)) hx hb dX5_isLoad_6 (by decide) ?_
    refine lv_icmp_gt (tgt := 15) hx hb dX5_isLoad_8 (by decide) (fun h_2 => ?_) (fun h_2 => ?_)
    · replace hT := mx_t hT h_2
      refine lv_iconst (v := (0 : Int32)) hx hb dX5_isLoad_15 (by decide) ?_
      cases hT
      exact W.zret (v := (0 : Int32)) hx hb hr rfl (fun t ht hW => mx_end Z t ht _) Z.2.2.2 dX5_isLoad_16
    · replace hT := mx_f hT h_2
      refine lv_iconst (v := (1 : Int32)) hx hb dX5_isLoad_11 (by decide) ?_
      refine lv_goto (tgt := 16) hx hb dX5_isLoad_12 (by decide) ?_
      cases hT
      exact W.zret (v := (1 : Int32)) hx hb hr rfl (fun t ht hW => mx_end Z t ht _) Z.2.2.2 dX5_isLoad_16
/-! PeatRailway$Train.start -/
def x4_start (c : Nat) (x1 : Int32) (x2 : Int32) (G : mM) : Option mM :=
  mNm (up2 G c 0 x1) fun G_1 =>
  mNm (up2 G_1 c 1 x2) fun G_2 =>
  mNm (up2 G_2 c 2 ((0 : Int32))) fun G_3 =>
  mNm (up2 G_3 c 3 ((0 : Int32))) fun G_4 =>
  mNm (up2 G_4 c 4 ((0 : Int32))) fun G_5 =>
  mNm (up2 G_5 c 5 ((0 : Int32))) fun G_6 =>
  mNm (up2 G_6 c 6 ((0 : Int32))) fun G_7 =>
  mNm (up2 G_7 c 7 ((0 : Int32))) fun G_8 =>
  mNm (up2 G_8 c 8 ((0 : Int32))) fun G_9 =>
  some (G_9)
theorem hd4_start : yX4_start.cls = RX4 ∧ yX4_start.cls ≠ "java/lang/invoke/MethodHandle" ∧ yX4_start.cls ≠ "java/lang/invoke/VarHandle" ∧ (parseMethodDescriptor yX4_start.desc).map (fun d => d.parameters.length) = some 2 := by decide +kernel
set_option maxHeartbeats 4000000 in
set_option maxRecDepth 100000 in
theorem c4_start (l : Launch) (E : mE) (hJ : mJ E) {c : Nat} (hc : mTr E c) (x1 : Int32) (x2 : Int32) (G : mM) (q : mM) (hT : x4_start c x1 x2 G = some q) : mMet l E yX4_start cX4_start 3 none 0 0 [.ref (mad E (c)), .int (x1), .int (x2)] G (none) q := by
  refine Met.ofW (cc := cX4_start) (maxL := 3) (ret := none) (by decide) rfl ?_
  intro p e s m args below meth cd s₁ B hml hv
  obtain ⟨rfl, hP, hK, hS⟩ := hv
  have X := mx_entry (own := RX4) B hml hK hJ hS rfl
  have hx := X.1
  have hb := X.2.1
  have hown := X.2.2.2.1
  have hts := X.2.2.2.2.1
  have hr := B.returns
  have hlocks := B.notSynchronized
  have hR : 0 ≤ (headSpec (mWs yX4_start cX4_start 3 none) ({ frames := 0, cells := 0, slots := 0, locals := 0 })).room.frames ∧ 0 ≤ (headSpec (mWs yX4_start cX4_start 3 none) ({ frames := 0, cells := 0, slots := 0, locals := 0 })).room.locals := ⟨Nat.le_refl _, Nat.le_refl _⟩
  have Z : mZ E s.heap s.heap [] G := ⟨hP, va_S.rf⟩
  have hl := lv_entry ([.ref (mad E (c)), .int (x1), .int (x2)]) (n := 3) (Nat.le_of_ble_eq_true rfl)
  rw [lg_entry_eq]
  generalize (lg_sl ([.ref (mad E (c)), .int (x1), .int (x2)]) ++ List.replicate (3 - (lg_sl ([.ref (mad E (c)), .int (x1), .int (x2)])).length) Slot.unset).toArray = ls at hl ⊢
  have hl : lv_has ls 3 [(0, .ref (mad E (c))), (1, .int (x1)), (2, .int (x2))] := hl
  unfold x4_start at hT
  refine lv_aload_n hx hb dX4_start_0 rfl (lv_at hl 0 rfl) ?_
  refine lv_iload_n hx hb dX4_start_1 rfl (lv_at hl 1 rfl) ?_
  obtain ⟨G_1, e_G_1, hT⟩ := mx_nm hT
  refine mx_put (ci := 4) (C := RX4) (T := TX4) (N := 10) X Z hc.i (hc.c _) rfl inlX4 tyX4 tyX4_ok nmX4 0 (by decide) wd_9_2 rfl rfl rfl (by show 0 < 10; decide) ((hc.c _).trans (congrArg (fun z => Sum.inr (4, z)) (sp_Tr_0 _ _ _))) dX4_start_2 (fun H locs Z => ?_)
  rw [e_G_1] at Z
  refine lv_aload_n hx hb dX4_start_5 rfl (lv_at hl 0 rfl) ?_
  refine lv_iload_n hx hb dX4_start_6 rfl (lv_at hl 2 rfl) ?_
  obtain ⟨G_2, e_G_2, hT⟩ := mx_nm hT
  refine mx_put (ci := 4) (C := RX4) (T := TX4) (N := 10) X Z hc.i (hc.c _) rfl inlX4 tyX4 tyX4_ok nmX4 1 (by decide) wd_9_3 rfl rfl rfl (by show 1 < 10; decide) ((hc.c _).trans (congrArg (fun z => Sum.inr (4, z)) (sp_Tr_1 _ _ _))) dX4_start_7 (fun H locs Z => ?_)
  rw [e_G_2] at Z
  refine lv_aload_n hx hb dX4_start_10 rfl (lv_at hl 0 rfl) ?_
  refine lv_iconst (v := (0 : Int32)) hx hb dX4_start_11 (by decide) ?_
  obtain ⟨G_3, e_G_3, hT⟩ := mx_nm hT
  refine mx_put (ci := 4) (C := RX4) (T := TX4) (N := 10) X Z hc.i (hc.c _) rfl inlX4 tyX4 tyX4_ok nmX4 2 (by decide) wd_9_4 rfl rfl rfl (by show 2 < 10; decide) ((hc.c _).trans (congrArg (fun z => Sum.inr (4, z)) (sp_Tr_2 _ _ _))) dX4_start_12 (fun H locs Z => ?_)
  rw [e_G_3] at Z
  refine lv_aload_n hx hb dX4_start_15 rfl (lv_at hl 0 rfl) ?_
  refine lv_iconst (v := (0 : Int32)) hx hb dX4_start_16 (by decide) ?_
  obtain ⟨G_4, e_G_4, hT⟩ := mx_nm hT
  refine mx_put (ci := 4) (C := RX4) (T := TX4) (N := 10) X Z hc.i (hc.c _) rfl inlX4 tyX4 tyX4_ok nmX4 3 (by decide) wd_9_5 rfl rfl rfl (by show 3 < 10; decide) ((hc.c _).trans (congrArg (fun z => Sum.inr (4, z)) (sp_Tr_3 _ _ _))) dX4_start_17 (fun H locs Z => ?_)
  rw [e_G_4] at Z
  refine lv_aload_n hx hb dX4_start_20 rfl (lv_at hl 0 rfl) ?_
  refine lv_iconst (v := (0 : Int32)) hx hb dX4_start_21 (by decide) ?_
  obtain ⟨G_5, e_G_5, hT⟩ := mx_nm hT
  refine mx_put (ci := 4) (C := RX4) (T := TX4) (N := 10) X Z hc.i (hc.c _) rfl inlX4 tyX4 tyX4_ok nmX4 4 (by decide) wd_9_6 rfl rfl rfl (by show 4 < 10; decide) ((hc.c _).trans (congrArg (fun z => Sum.inr (4, z)) (sp_Tr_4 _ _ _))) dX4_start_22 (fun H locs Z => ?_)
  rw [e_G_5] at Z
  refine lv_aload_n hx hb dX4_start_25 rfl (lv_at hl 0 rfl) ?_
  refine lv_iconst (v := (0 : Int32)) hx hb dX4_start_26 (by decide) ?_
  obtain ⟨G_6, e_G_6, hT⟩ := mx_nm hT
  refine mx_put (ci := 4) (C := RX4) (T := TX4) (N := 10) X Z hc.i (hc.c _) rfl inlX4 tyX4 tyX4_ok nmX4 5 (by decide) wd_9_7 rfl rfl rfl (by show 5 < 10; decide) ((hc.c _).trans (congrArg (fun z => Sum.inr (4, z)) (sp_Tr_5 _ _ _))) dX4_start_27 (fun H locs Z => ?_)
  rw [e_G_6] at Z
  refine lv_aload_n hx hb dX4_start_30 rfl (lv_at hl 0 rfl) ?_
  refine lv_iconst (v := (0 : Int32)) hx hb dX4_start_31 (by decide) ?_
  obtain ⟨G_7, e_G_7, hT⟩ := mx_nm hT
  refine mx_put (ci := 4) (C := RX4) (T := TX4) (N := 10) X Z hc.i (hc.c _) rfl inlX4 tyX4 tyX4_ok nmX4 6 (by decide) wd_9_8 rfl rfl rfl (by show 6 < 10; decide) ((hc.c _).trans (congrArg (fun z => Sum.inr (4, z)) (sp_Tr_6 _ _ _))) dX4_start_32 (fun H locs Z => ?_)
  rw [e_G_7] at Z
  refine lv_aload_n hx hb dX4_start_35 rfl (lv_at hl 0 rfl) ?_
  refine lv_iconst (v := (0 : Int32)) hx hb dX4_start_36 (by decide) ?_
  obtain ⟨G_8, e_G_8, hT⟩ := mx_nm hT
  refine mx_put (ci := 4) (C := RX4) (T := TX4) (N := 10) X Z hc.i (hc.c _) rfl inlX4 tyX4 tyX4_ok nmX4 7 (by decide) wd_9_9 rfl rfl rfl (by show 7 < 10; decide) ((hc.c _).trans (congrArg (fun z => Sum.inr (4, z)) (sp_Tr_7 _ _ _))) dX4_start_37 (fun H locs Z => ?_)
  rw [e_G_8] at Z
  refine lv_aload_n hx hb dX4_start_40 rfl (lv_at hl 0 rfl) ?_
  refine lv_iconst (v := (0 : Int32)) hx hb dX4_start_41 (by decide) ?_
  obtain ⟨G_9, e_G_9, hT⟩ := mx_nm hT
  refine mx_put (ci := 4) (C := RX4) (T := TX4) (N := 10) X Z hc.i (hc.c _) rfl inlX4 tyX4 tyX4_ok nmX4 8 (by decide) wd_9_10 rfl rfl rfl (by show 8 < 10; decide) ((hc.c _).trans (congrArg (fun z => Sum.inr (4, z)) (sp_Tr_8 _ _ _))) dX4_start_42 (fun H locs Z => ?_)
  rw [e_G_9] at Z
  cases hT
  exact W.vret hx hb hr (fun t ht hW => mx_end Z t ht _) Z.2.2.2 dX4_start_45
/-! PeatRailway$State.bringTrain -/
def x3_bringTrain (c : Nat) (x1 : Int32) (x2 : Int32) (G : mM) : Option (Int32 × mM) :=
  mNm (up2 G c 4 ((G c 4) + ((1 : Int32)))) fun G_1 =>
  (x3_trainAt c ((G_1 c 4) - ((1 : Int32))) G_1).bind fun q_2 =>
  mOpt q_2 (
    some ((G_1 c 4) - ((1 : Int32)), G_1)) fun o_3 =>
    (x4_start o_3 x1 x2 G_1).bind fun q_5 =>
    some ((q_5 c 4) - ((1 : Int32)), q_5)
theorem hd3_bringTrain : yX3_bringTrain.cls = RX3 ∧ yX3_bringTrain.cls ≠ "java/lang/invoke/MethodHandle" ∧ yX3_bringTrain.cls ≠ "java/lang/invoke/VarHandle" ∧ (parseMethodDescriptor yX3_bringTrain.desc).map (fun d => d.parameters.length) = some 2 := by decide +kernel
set_option maxHeartbeats 4000000 in
set_option maxRecDepth 100000 in
theorem c3_bringTrain (l : Launch) (E : mE) (hJ : mJ E) {c : Nat} (hc : mSt E c) (x1 : Int32) (x2 : Int32) (G : mM) (q : (Int32 × mM)) (hT : x3_bringTrain c x1 x2 G = some q) : mMet l E yX3_bringTrain cX3_bringTrain 4 (some .int) 1 22 [.ref (mad E (c)), .int (x1), .int (x2)] G (some (.int q.1)) q.2 := by
  refine Met.ofW (cc := cX3_bringTrain) (maxL := 4) (ret := (some .int)) (by decide) rfl ?_
  intro p e s m args below meth cd s₁ B hml hv
  obtain ⟨rfl, hP, hK, hS⟩ := hv
  have X := mx_entry (own := RX3) B hml hK hJ hS rfl
  have hx := X.1
  have hb := X.2.1
  have hown := X.2.2.2.1
  have hts := X.2.2.2.2.1
  have hr := B.returns
  have hlocks := B.notSynchronized
  have hR : 1 ≤ (headSpec (mWs yX3_bringTrain cX3_bringTrain 4 (some .int)) ({ frames := 1, cells := 0, slots := 0, locals := 22 })).room.frames ∧ 22 ≤ (headSpec (mWs yX3_bringTrain cX3_bringTrain 4 (some .int)) ({ frames := 1, cells := 0, slots := 0, locals := 22 })).room.locals := ⟨Nat.le_refl _, Nat.le_refl _⟩
  have Z : mZ E s.heap s.heap [] G := ⟨hP, va_S.rf⟩
  have hl := lv_entry ([.ref (mad E (c)), .int (x1), .int (x2)]) (n := 4) (Nat.le_of_ble_eq_true rfl)
  rw [lg_entry_eq]
  generalize (lg_sl ([.ref (mad E (c)), .int (x1), .int (x2)]) ++ List.replicate (4 - (lg_sl ([.ref (mad E (c)), .int (x1), .int (x2)])).length) Slot.unset).toArray = ls at hl ⊢
  have hl : lv_has ls 4 [(0, .ref (mad E (c))), (1, .int (x1)), (2, .int (x2))] := hl
  unfold x3_bringTrain at hT
  refine lv_aload_n hx hb dX3_bringTrain_0 rfl (lv_at hl 0 rfl) ?_
  refine lv_dup hx hb dX3_bringTrain_1 rfl ?_
  refine mx_get (v := .int (G c 4)) (ci := 3) (C := RX3) (T := TX3) (N := 11) X Z hc.i (hc.c _) rfl inlX3 4 (by decide) wd_8_10 rfl dX3_bringTrain_2 ?_
  refine lv_iconst (v := (1 : Int32)) hx hb dX3_bringTrain_5 (by decide) ?_
  refine lv_iadd hx hb dX3_bringTrain_6 ?_
  obtain ⟨G_1, e_G_1, hT⟩ := mx_nm hT
  refine mx_put (ci := 3) (C := RX3) (T := TX3) (N := 11) X Z hc.i (hc.c _) rfl inlX3 tyX3 tyX3_ok nmX3 4 (by decide) wd_8_10 rfl rfl rfl (by show 4 < 11; decide) ((hc.c _).trans (congrArg (fun z => Sum.inr (3, z)) (sp_St_4 (mad E) _ _ _))) dX3_bringTrain_7 (fun H locs Z => ?_)
  rw [e_G_1] at Z
  refine lv_aload_n hx hb dX3_bringTrain_10 rfl (lv_at hl 0 rfl) ?_
  refine lv_aload_n hx hb dX3_bringTrain_11 rfl (lv_at hl 0 rfl) ?_
  refine mx_get (v := .int (G_1 c 4)) (ci := 3) (C := RX3) (T := TX3) (N := 11) X Z hc.i (hc.c _) rfl inlX3 4 (by decide) wd_8_10 rfl dX3_bringTrain_12 ?_
  refine lv_iconst (v := (1 : Int32)) hx hb dX3_bringTrain_15 (by decide) ?_
  refine lv_isub hx hb dX3_bringTrain_16 ?_
  obtain ⟨q_2, h_q_2, hT⟩ := mx_bind hT
  refine mx_callV (As := [.int ((G_1 c 4) - ((1 : Int32)))]) (rest := []) (st1 := [va_re (mad E) q_2]) (C := RX3) (T := TX3) (N := 11) (ci := 3) X Z hl.1 (c3_trainAt l E hJ hc _ _ _ h_q_2) wd_11_0 wd_11_1 wd_11_2 wd_1_16 wd_11_3 hd3_trainAt ⟨Nat.le_trans (by decide) hR.1, Nat.le_trans (by decide) hR.2⟩ ⟨Nat.zero_le _, Nat.zero_le _⟩ hc.i (hc.c _) rfl (Nat.le_of_ble_eq_true rfl) rfl rfl dX3_bringTrain_17 (fun H locs Z => ?_)
  have hk_4 := c3_trainAt_k E hc _ _ _ h_q_2
  rcases q_2 with _ | o_3
  · replace hT := mx_on hT
    refine mx_tops (s2 := [.null]) rfl ?_
    refine lv_astore_nN (lv' := [(3, .null), (0, .ref (mad E (c))), (1, .int (x1)), (2, .int (x2))]) hx hb dX3_bringTrain_20 rfl hl (by decide) rfl (fun ls hl => ?_)
    refine lv_aload_nN hx hb dX3_bringTrain_21 rfl (lv_at hl 0 rfl) ?_
    refine lv_ifnullN (tgt := 31) hx hb dX3_bringTrain_22 (by decide) ?_
    refine lv_aload_n hx hb dX3_bringTrain_31 rfl (lv_at hl 1 rfl) ?_
    refine mx_get (v := .int (G_1 c 4)) (ci := 3) (C := RX3) (T := TX3) (N := 11) X Z hc.i (hc.c _) rfl inlX3 4 (by decide) wd_8_10 rfl dX3_bringTrain_32 ?_
    refine lv_iconst (v := (1 : Int32)) hx hb dX3_bringTrain_35 (by decide) ?_
    refine lv_isub hx hb dX3_bringTrain_36 ?_
    cases hT
    exact W.iret hx hb hr (fun t ht hW => mx_end Z t ht _) Z.2.2.2 dX3_bringTrain_37
  · replace hT := mx_os hT
    refine mx_tops (s2 := [.ref (mad E o_3)]) rfl ?_
    refine lv_astore_n (lv' := [(3, .ref (mad E (o_3))), (0, .ref (mad E (c))), (1, .int (x1)), (2, .int (x2))]) hx hb dX3_bringTrain_20 rfl hl (by decide) rfl (fun ls hl => ?_)
    refine lv_aload_n hx hb dX3_bringTrain_21 rfl (lv_at hl 0 rfl) ?_
    refine lv_ifnull hx hb dX3_bringTrain_22 ?_
    refine lv_aload_n hx hb dX3_bringTrain_25 rfl (lv_at hl 0 rfl) ?_
    refine lv_iload_n hx hb dX3_bringTrain_26 rfl (lv_at hl 2 rfl) ?_
    refine lv_iload_n hx hb dX3_bringTrain_27 rfl (lv_at hl 3 rfl) ?_
    obtain ⟨q_5, h_q_5, hT⟩ := mx_bind hT
    refine mx_callV (As := [.int (x1), .int (x2)]) (rest := []) (st1 := []) (C := RX4) (T := TX4) (N := 10) (ci := 4) X Z hl.1 (c4_start l E hJ ((hk_4 o_3 rfl)) _ _ _ _ h_q_5) wd_20_14 wd_20_15 wd_20_16 wd_5_0 wd_20_17 hd4_start ⟨Nat.le_trans (by decide) hR.1, Nat.le_trans (by decide) hR.2⟩ ⟨Nat.zero_le _, Nat.zero_le _⟩ ((hk_4 o_3 rfl)).i (((hk_4 o_3 rfl)).c _) rfl (Nat.le_of_ble_eq_true rfl) rfl rfl dX3_bringTrain_28 (fun H locs Z => ?_)
    refine lv_aload_n hx hb dX3_bringTrain_31 rfl (lv_at hl 1 rfl) ?_
    refine mx_get (v := .int (q_5 c 4)) (ci := 3) (C := RX3) (T := TX3) (N := 11) X Z hc.i (hc.c _) rfl inlX3 4 (by decide) wd_8_10 rfl dX3_bringTrain_32 ?_
    refine lv_iconst (v := (1 : Int32)) hx hb dX3_bringTrain_35 (by decide) ?_
    refine lv_isub hx hb dX3_bringTrain_36 ?_
    cases hT
    exact W.iret hx hb hr (fun t ht hW => mx_end Z t ht _) Z.2.2.2 dX3_bringTrain_37
/-! PeatRailway.addTrain -/
def x5_addTrain (x1 : Int32) (x2 : Int32) (G : mM) : Option (Int32 × mM) :=
  if x1 < ((1 : Int32)) then
    some ((-2 : Int32), G)
  else
    if ((6 : Int32)) < x1 then
      some ((-2 : Int32), G)
    else
      (x5_isLoad x2 G).bind fun q_3 =>
      if q_3 = 0 then
        some ((-2 : Int32), G)
      else
        if (G 0 4) < ((4 : Int32)) then
          (x0_remember 0 G).bind fun q_6 =>
          (x3_bringTrain 0 x1 x2 q_6).bind fun q_7 =>
          some (q_7.1, q_7.2)
        else
          some ((-4 : Int32), G)
theorem hd5_addTrain : yX5_addTrain.cls = RX5 ∧ yX5_addTrain.cls ≠ "java/lang/invoke/MethodHandle" ∧ yX5_addTrain.cls ≠ "java/lang/invoke/VarHandle" ∧ (parseMethodDescriptor yX5_addTrain.desc).map (fun d => d.parameters.length) = some 2 := by decide +kernel
set_option maxHeartbeats 4000000 in
set_option maxRecDepth 100000 in
theorem c5_addTrain (l : Launch) (E : mE) (hJ : mJ E) (hc : mAl E 240) (x1 : Int32) (x2 : Int32) (G : mM) (q : (Int32 × mM)) (hT : x5_addTrain x1 x2 G = some q) : mMet l E yX5_addTrain cX5_addTrain 3 (some .int) 3 64 [.ref (mad E (240)), .int (x1), .int (x2)] G (some (.int q.1)) q.2 := by
  refine Met.ofW (cc := cX5_addTrain) (maxL := 3) (ret := (some .int)) (by decide) rfl ?_
  intro p e s m args below meth cd s₁ B hml hv
  obtain ⟨rfl, hP, hK, hS⟩ := hv
  have X := mx_entry (own := RX5) B hml hK hJ hS rfl
  have hx := X.1
  have hb := X.2.1
  have hown := X.2.2.2.1
  have hts := X.2.2.2.2.1
  have hr := B.returns
  have hlocks := B.notSynchronized
  have hR : 3 ≤ (headSpec (mWs yX5_addTrain cX5_addTrain 3 (some .int)) ({ frames := 3, cells := 0, slots := 0, locals := 64 })).room.frames ∧ 64 ≤ (headSpec (mWs yX5_addTrain cX5_addTrain 3 (some .int)) ({ frames := 3, cells := 0, slots := 0, locals := 64 })).room.locals := ⟨Nat.le_refl _, Nat.le_refl _⟩
  have Z : mZ E s.heap s.heap [] G := ⟨hP, va_S.rf⟩
  have hl := lv_entry ([.ref (mad E (240)), .int (x1), .int (x2)]) (n := 3) (Nat.le_of_ble_eq_true rfl)
  rw [lg_entry_eq]
  generalize (lg_sl ([.ref (mad E (240)), .int (x1), .int (x2)]) ++ List.replicate (3 - (lg_sl ([.ref (mad E (240)), .int (x1), .int (x2)])).length) Slot.unset).toArray = ls at hl ⊢
  have hl : lv_has ls 3 [(0, .ref (mad E (240))), (1, .int (x1)), (2, .int (x2))] := hl
  unfold x5_addTrain at hT
  refine lv_iload_n hx hb dX5_addTrain_0 rfl (lv_at hl 1 rfl) ?_
  refine lv_iconst (v := (1 : Int32)) hx hb dX5_addTrain_1 (by decide) ?_
  refine lv_icmp_lt (tgt := 18) hx hb dX5_addTrain_2 (by decide) (fun h_1 => ?_) (fun h_1 => ?_)
  · replace hT := mx_t hT h_1
    refine lv_bipush (v := (-2 : Int32)) hx hb dX5_addTrain_18 (by decide) ?_
    cases hT
    exact W.iret hx hb hr (fun t ht hW => mx_end Z t ht _) Z.2.2.2 dX5_addTrain_20
  · replace hT := mx_f hT h_1
    refine lv_iload_n hx hb dX5_addTrain_5 rfl (lv_at hl 1 rfl) ?_
    refine lv_bipush (v := (6 : Int32)) hx hb dX5_addTrain_6 (by decide) ?_
    refine lv_icmp_gt (tgt := 18) hx hb dX5_addTrain_8 (by decide) (fun h_2 => ?_) (fun h_2 => ?_)
    · replace hT := mx_t hT h_2
      refine lv_bipush (v := (-2 : Int32)) hx hb dX5_addTrain_18 (by decide) ?_
      cases hT
      exact W.iret hx hb hr (fun t ht hW => mx_end Z t ht _) Z.2.2.2 dX5_addTrain_20
    · replace hT := mx_f hT h_2
      refine lv_iload_n hx hb dX5_addTrain_11 rfl (lv_at hl 2 rfl) ?_
      obtain ⟨q_3, h_q_3, hT⟩ := mx_bind hT
      refine mx_callS (As := [.int (x2)]) (rest := []) (st1 := [.int (q_3)]) X Z hl.1 (c5_isLoad l E hJ _ _ _ h_q_3) wd_20_7 wd_20_8 wd_1_2 wd_20_9 hd5_isLoad ⟨Nat.le_trans (by decide) hR.1, Nat.le_trans (by decide) hR.2⟩ ⟨Nat.zero_le _, Nat.zero_le _⟩ (Nat.le_of_ble_eq_true rfl) rfl rfl dX5_addTrain_12 (fun H locs Z => ?_)
      refine lv_if_ne (tgt := 21) hx hb dX5_addTrain_15 (by decide) (fun h_4 => ?_) (fun h_4 => ?_)
      · replace hT := mx_f hT h_4
        refine lv_aload_n hx hb dX5_addTrain_21 rfl (lv_at hl 0 rfl) ?_
        refine mx_get (v := .ref (mad E (0))) (ci := 5) (C := RX5) (T := TX5) (N := 6) X Z hc.i (hc.c _) rfl inlX5 1 (by decide) wd_1_18 rfl dX5_addTrain_22 ?_
        refine mx_get (v := .int (G 0 4)) (ci := 3) (C := RX3) (T := TX3) (N := 11) X Z hc.now.i (hc.now.c _) rfl inlX3 4 (by decide) wd_15_15 rfl dX5_addTrain_25 ?_
        refine lv_iconst (v := (4 : Int32)) hx hb dX5_addTrain_28 (by decide) ?_
        refine lv_icmp_lt (tgt := 35) hx hb dX5_addTrain_29 (by decide) (fun h_5 => ?_) (fun h_5 => ?_)
        · replace hT := mx_t hT h_5
          refine lv_aload_n hx hb dX5_addTrain_35 rfl (lv_at hl 0 rfl) ?_
          refine mx_get (v := .ref (mad E (243))) (ci := 5) (C := RX5) (T := TX5) (N := 6) X Z hc.i (hc.c _) rfl inlX5 3 (by decide) wd_1_23 rfl dX5_addTrain_36 ?_
          refine lv_aload_n hx hb dX5_addTrain_39 rfl (lv_at hl 0 rfl) ?_
          refine mx_get (v := .ref (mad E (0))) (ci := 5) (C := RX5) (T := TX5) (N := 6) X Z hc.i (hc.c _) rfl inlX5 1 (by decide) wd_1_18 rfl dX5_addTrain_40 ?_
          obtain ⟨q_6, h_q_6, hT⟩ := mx_bind hT
          refine mx_callV (As := [.ref (mad E (0))]) (rest := []) (st1 := []) (C := RX0) (T := TX0) (N := 2) (ci := 0) X Z hl.1 (c0_remember l E hJ hc.hi hc.now _ _ h_q_6) wd_9_20 wd_9_21 wd_9_22 wd_1_22 wd_9_23 hd0_remember ⟨Nat.le_trans (by decide) hR.1, Nat.le_trans (by decide) hR.2⟩ ⟨Nat.zero_le _, Nat.zero_le _⟩ hc.hi.i (hc.hi.c _) rfl (Nat.le_of_ble_eq_true rfl) rfl rfl dX5_addTrain_43 (fun H locs Z => ?_)
          refine lv_aload_n hx hb dX5_addTrain_46 rfl (lv_at hl 0 rfl) ?_
          refine mx_get (v := .ref (mad E (0))) (ci := 5) (C := RX5) (T := TX5) (N := 6) X Z hc.i (hc.c _) rfl inlX5 1 (by decide) wd_1_18 rfl dX5_addTrain_47 ?_
          refine lv_iload_n hx hb dX5_addTrain_50 rfl (lv_at hl 1 rfl) ?_
          refine lv_iload_n hx hb dX5_addTrain_51 rfl (lv_at hl 2 rfl) ?_
          obtain ⟨q_7, h_q_7, hT⟩ := mx_bind hT
          refine mx_callV (As := [.int (x1), .int (x2)]) (rest := []) (st1 := [.int (q_7.1)]) (C := RX3) (T := TX3) (N := 11) (ci := 3) X Z hl.1 (c3_bringTrain l E hJ hc.now _ _ _ _ h_q_7) wd_20_10 wd_20_11 wd_20_12 wd_1_16 wd_20_13 hd3_bringTrain ⟨Nat.le_trans (by decide) hR.1, Nat.le_trans (by decide) hR.2⟩ ⟨Nat.zero_le _, Nat.zero_le _⟩ hc.now.i (hc.now.c _) rfl (Nat.le_of_ble_eq_true rfl) rfl rfl dX5_addTrain_52 (fun H locs Z => ?_)
          cases hT
          exact W.iret hx hb hr (fun t ht hW => mx_end Z t ht _) Z.2.2.2 dX5_addTrain_55
        · replace hT := mx_f hT h_5
          refine lv_bipush (v := (-4 : Int32)) hx hb dX5_addTrain_32 (by decide) ?_
          cases hT
          exact W.iret hx hb hr (fun t ht hW => mx_end Z t ht _) Z.2.2.2 dX5_addTrain_34
      · replace hT := mx_t hT h_4
        refine lv_bipush (v := (-2 : Int32)) hx hb dX5_addTrain_18 (by decide) ?_
        cases hT
        exact W.iret hx hb hr (fun t ht hW => mx_end Z t ht _) Z.2.2.2 dX5_addTrain_20
/-! PeatRailway$State.loseTrain -/
def x3_loseTrain_L26 (y0 : Nat) : Nat → Int32 → mM → Option (mM)
  | 0, _, _ => none
  | n + 1, w3, G =>
    if ((4 : Int32)) ≤ w3 then
      some (G)
    else
      (x3_trainAt y0 w3 G).bind fun q_6 =>
      mOpt q_6 (
        (x3_trainAt y0 (w3 + ((1 : Int32))) G).bind fun q_9 =>
        mOpt q_9 (
          mNm (w3 + (1 : Int32)) fun v_12 =>
          x3_loseTrain_L26 y0 n v_12 G) fun o_10 =>
          mNm (w3 + (1 : Int32)) fun v_13 =>
          x3_loseTrain_L26 y0 n v_13 G) fun o_7 =>
        (x3_trainAt y0 (w3 + ((1 : Int32))) G).bind fun q_14 =>
        mOpt q_14 (
          mNm (w3 + (1 : Int32)) fun v_17 =>
          x3_loseTrain_L26 y0 n v_17 G) fun o_15 =>
          (x4_copyFrom o_7 o_15 G).bind fun q_18 =>
          mNm (w3 + (1 : Int32)) fun v_19 =>
          x3_loseTrain_L26 y0 n v_19 q_18
def x3_loseTrain (c : Nat) (x1 : Int32) (G : mM) : Option mM :=
  (x3_trainAt c x1 G).bind fun q_1 =>
  mOpt q_1 (
    some (G)) fun o_2 =>
    mNm (up2 G c 8 ((G c 8) + (G o_2 2))) fun G_4 =>
    (x3_loseTrain_L26 c mFu x1 G_4).bind fun q_20 =>
    mNm (up2 q_20 c 4 ((q_20 c 4) - ((1 : Int32)))) fun G_21 =>
    some (G_21)
theorem hd3_loseTrain : yX3_loseTrain.cls = RX3 ∧ yX3_loseTrain.cls ≠ "java/lang/invoke/MethodHandle" ∧ yX3_loseTrain.cls ≠ "java/lang/invoke/VarHandle" ∧ (parseMethodDescriptor yX3_loseTrain.desc).map (fun d => d.parameters.length) = some 1 := by decide +kernel
set_option maxHeartbeats 4000000 in
set_option maxRecDepth 100000 in
theorem k3_loseTrain_26 {p : Program} {l : Launch} {e : Env} {R : Room} {s : State} {m : MethodId} {args : Array Value} {below : List Frame} {meth : Method} {cd : Code} {Q : State → Prop} {E : mE} (X : mX p s m args cd cX3_loseTrain 6 RX3 E) (hR : 1 ≤ R.frames ∧ 21 ≤ R.locals) (hJ : mJ E) {y0 : Nat} (hy0 : mSt E y0) : ∀ (n : Nat) (w3 : Int32) (G : mM) (H : Heap) (locs : List Loc) (ls : Array Slot) (r : mM), x3_loseTrain_L26 y0 n w3 G = some r → mZ E s.heap H locs G → lv_has ls 6 [(0, .ref (mad E (y0))), (3, .int (w3))] → (∀ (H : Heap) (locs : List Loc) (ls : Array Slot), mZ E s.heap H locs r → lv_has ls 6 [(0, .ref (mad E (y0)))] → W p l e R s m args below meth cd H locs 0 0 Q (F0 m 70 ls [])) → W p l e R s m args below meth cd H locs 0 0 Q (F0 m 26 ls []) := by
  have hx := X.1
  have hb := X.2.1
  have hown := X.2.2.2.1
  have hts := X.2.2.2.2.1
  intro n
  induction n with
  | zero =>
    intro w3 G H locs ls r hT
    rw [x3_loseTrain_L26] at hT
    cases hT
  | succ n ih =>
    intro w3 G H locs ls r hT Z hl k0
    rw [x3_loseTrain_L26] at hT
    refine lv_iload_n hx hb dX3_loseTrain_26 rfl (lv_at hl 1 rfl) ?_
    refine lv_iconst (v := (4 : Int32)) hx hb dX3_loseTrain_27 (by decide) ?_
    refine lv_icmp_ge (tgt := 70) hx hb dX3_loseTrain_28 (by decide) (fun h_5 => ?_) (fun h_5 => ?_)
    · replace hT := mx_t hT h_5
      cases hT
      exact k0 _ _ _ Z (lv_sub hl [0] rfl)
    · replace hT := mx_f hT h_5
      refine lv_aload_n hx hb dX3_loseTrain_31 rfl (lv_at hl 0 rfl) ?_
      refine lv_iload_n hx hb dX3_loseTrain_32 rfl (lv_at hl 1 rfl) ?_
      obtain ⟨q_6, h_q_6, hT⟩ := mx_bind hT
      refine mx_callV (As := [.int (w3)]) (rest := []) (st1 := [va_re (mad E) q_6]) (C := RX3) (T := TX3) (N := 11) (ci := 3) X Z hl.1 (c3_trainAt l E hJ hy0 _ _ _ h_q_6) wd_11_0 wd_11_1 wd_11_2 wd_1_16 wd_11_3 hd3_trainAt ⟨Nat.le_trans (by decide) hR.1, Nat.le_trans (by decide) hR.2⟩ ⟨Nat.zero_le _, Nat.zero_le _⟩ hy0.i (hy0.c _) rfl (Nat.le_of_ble_eq_true rfl) rfl rfl dX3_loseTrain_33 (fun H locs Z => ?_)
      have hk_8 := c3_trainAt_k E hy0 _ _ _ h_q_6
      rcases q_6 with _ | o_7
      · replace hT := mx_on hT
        refine mx_tops (s2 := [.null]) rfl ?_
        refine lv_astoreN (lv' := [(4, .null), (0, .ref (mad E (y0))), (3, .int (w3))]) hx hb dX3_loseTrain_36 hl (by decide) rfl (fun ls hl => ?_)
        refine lv_aload_n hx hb dX3_loseTrain_38 rfl (lv_at hl 1 rfl) ?_
        refine lv_iload_n hx hb dX3_loseTrain_39 rfl (lv_at hl 2 rfl) ?_
        refine lv_iconst (v := (1 : Int32)) hx hb dX3_loseTrain_40 (by decide) ?_
        refine lv_iadd hx hb dX3_loseTrain_41 ?_
        obtain ⟨q_9, h_q_9, hT⟩ := mx_bind hT
        refine mx_callV (As := [.int (w3 + ((1 : Int32)))]) (rest := []) (st1 := [va_re (mad E) q_9]) (C := RX3) (T := TX3) (N := 11) (ci := 3) X Z hl.1 (c3_trainAt l E hJ hy0 _ _ _ h_q_9) wd_11_0 wd_11_1 wd_11_2 wd_1_16 wd_11_3 hd3_trainAt ⟨Nat.le_trans (by decide) hR.1, Nat.le_trans (by decide) hR.2⟩ ⟨Nat.zero_le _, Nat.zero_le _⟩ hy0.i (hy0.c _) rfl (Nat.le_of_ble_eq_true rfl) rfl rfl dX3_loseTrain_42 (fun H locs Z => ?_)
        have hk_11 := c3_trainAt_k E hy0 _ _ _ h_q_9
        rcases q_9 with _ | o_10
        · replace hT := mx_on hT
          refine mx_tops (s2 := [.null]) rfl ?_
          refine lv_astoreN (lv' := [(5, .null), (4, .null), (0, .ref (mad E (y0))), (3, .int (w3))]) hx hb dX3_loseTrain_45 hl (by decide) rfl (fun ls hl => ?_)
          refine lv_aloadN hx hb dX3_loseTrain_47 (lv_at hl 1 rfl) ?_
          refine lv_ifnullN (tgt := 64) hx hb dX3_loseTrain_49 (by decide) ?_
          obtain ⟨v_12, e_v_12, hT⟩ := mx_nm hT
          refine lv_iinc (v := v_12) (lv' := [(3, .int (v_12)), (5, .null), (4, .null), (0, .ref (mad E (y0)))]) hx hb dX3_loseTrain_64 hl (k := 3) rfl (by rw [← e_v_12]; rfl) (by decide) rfl (fun ls hl => ?_)
          refine lv_goto (tgt := 26) hx hb dX3_loseTrain_67 (by decide) ?_
          exact ih _ _ _ _ _ _ hT Z (lv_sub hl [3, 0] rfl) k0
        · replace hT := mx_os hT
          refine mx_tops (s2 := [.ref (mad E o_10)]) rfl ?_
          refine lv_astore (lv' := [(5, .ref (mad E (o_10))), (4, .null), (0, .ref (mad E (y0))), (3, .int (w3))]) hx hb dX3_loseTrain_45 hl (by decide) rfl (fun ls hl => ?_)
          refine lv_aloadN hx hb dX3_loseTrain_47 (lv_at hl 1 rfl) ?_
          refine lv_ifnullN (tgt := 64) hx hb dX3_loseTrain_49 (by decide) ?_
          obtain ⟨v_13, e_v_13, hT⟩ := mx_nm hT
          refine lv_iinc (v := v_13) (lv' := [(3, .int (v_13)), (5, .ref (mad E (o_10))), (4, .null), (0, .ref (mad E (y0)))]) hx hb dX3_loseTrain_64 hl (k := 3) rfl (by rw [← e_v_13]; rfl) (by decide) rfl (fun ls hl => ?_)
          refine lv_goto (tgt := 26) hx hb dX3_loseTrain_67 (by decide) ?_
          exact ih _ _ _ _ _ _ hT Z (lv_sub hl [3, 0] rfl) k0
      · replace hT := mx_os hT
        refine mx_tops (s2 := [.ref (mad E o_7)]) rfl ?_
        refine lv_astore (lv' := [(4, .ref (mad E (o_7))), (0, .ref (mad E (y0))), (3, .int (w3))]) hx hb dX3_loseTrain_36 hl (by decide) rfl (fun ls hl => ?_)
        refine lv_aload_n hx hb dX3_loseTrain_38 rfl (lv_at hl 1 rfl) ?_
        refine lv_iload_n hx hb dX3_loseTrain_39 rfl (lv_at hl 2 rfl) ?_
        refine lv_iconst (v := (1 : Int32)) hx hb dX3_loseTrain_40 (by decide) ?_
        refine lv_iadd hx hb dX3_loseTrain_41 ?_
        obtain ⟨q_14, h_q_14, hT⟩ := mx_bind hT
        refine mx_callV (As := [.int (w3 + ((1 : Int32)))]) (rest := []) (st1 := [va_re (mad E) q_14]) (C := RX3) (T := TX3) (N := 11) (ci := 3) X Z hl.1 (c3_trainAt l E hJ hy0 _ _ _ h_q_14) wd_11_0 wd_11_1 wd_11_2 wd_1_16 wd_11_3 hd3_trainAt ⟨Nat.le_trans (by decide) hR.1, Nat.le_trans (by decide) hR.2⟩ ⟨Nat.zero_le _, Nat.zero_le _⟩ hy0.i (hy0.c _) rfl (Nat.le_of_ble_eq_true rfl) rfl rfl dX3_loseTrain_42 (fun H locs Z => ?_)
        have hk_16 := c3_trainAt_k E hy0 _ _ _ h_q_14
        rcases q_14 with _ | o_15
        · replace hT := mx_on hT
          refine mx_tops (s2 := [.null]) rfl ?_
          refine lv_astoreN (lv' := [(5, .null), (4, .ref (mad E (o_7))), (0, .ref (mad E (y0))), (3, .int (w3))]) hx hb dX3_loseTrain_45 hl (by decide) rfl (fun ls hl => ?_)
          refine lv_aload hx hb dX3_loseTrain_47 (lv_at hl 1 rfl) ?_
          refine lv_ifnull hx hb dX3_loseTrain_49 ?_
          refine lv_aloadN hx hb dX3_loseTrain_52 (lv_at hl 0 rfl) ?_
          refine lv_ifnullN (tgt := 64) hx hb dX3_loseTrain_54 (by decide) ?_
          obtain ⟨v_17, e_v_17, hT⟩ := mx_nm hT
          refine lv_iinc (v := v_17) (lv' := [(3, .int (v_17)), (5, .null), (4, .ref (mad E (o_7))), (0, .ref (mad E (y0)))]) hx hb dX3_loseTrain_64 hl (k := 3) rfl (by rw [← e_v_17]; rfl) (by decide) rfl (fun ls hl => ?_)
          refine lv_goto (tgt := 26) hx hb dX3_loseTrain_67 (by decide) ?_
          exact ih _ _ _ _ _ _ hT Z (lv_sub hl [3, 0] rfl) k0
        · replace hT := mx_os hT
          refine mx_tops (s2 := [.ref (mad E o_15)]) rfl ?_
          refine lv_astore (lv' := [(5, .ref (mad E (o_15))), (4, .ref (mad E (o_7))), (0, .ref (mad E (y0))), (3, .int (w3))]) hx hb dX3_loseTrain_45 hl (by decide) rfl (fun ls hl => ?_)
          refine lv_aload hx hb dX3_loseTrain_47 (lv_at hl 1 rfl) ?_
          refine lv_ifnull hx hb dX3_loseTrain_49 ?_
          refine lv_aload hx hb dX3_loseTrain_52 (lv_at hl 0 rfl) ?_
          refine lv_ifnull hx hb dX3_loseTrain_54 ?_
          refine lv_aload hx hb dX3_loseTrain_57 (lv_at hl 1 rfl) ?_
          refine lv_aload hx hb dX3_loseTrain_59 (lv_at hl 0 rfl) ?_
          obtain ⟨q_18, h_q_18, hT⟩ := mx_bind hT
          refine mx_callV (As := [.ref (mad E (o_15))]) (rest := []) (st1 := []) (C := RX4) (T := TX4) (N := 10) (ci := 4) X Z hl.1 (c4_copyFrom l E hJ ((hk_8 o_7 rfl)) ((hk_16 o_15 rfl)) _ _ h_q_18) wd_8_22 wd_8_23 wd_9_0 wd_5_0 wd_9_1 hd4_copyFrom ⟨Nat.le_trans (by decide) hR.1, Nat.le_trans (by decide) hR.2⟩ ⟨Nat.zero_le _, Nat.zero_le _⟩ ((hk_8 o_7 rfl)).i (((hk_8 o_7 rfl)).c _) rfl (Nat.le_of_ble_eq_true rfl) rfl rfl dX3_loseTrain_61 (fun H locs Z => ?_)
          obtain ⟨v_19, e_v_19, hT⟩ := mx_nm hT
          refine lv_iinc (v := v_19) (lv' := [(3, .int (v_19)), (5, .ref (mad E (o_15))), (4, .ref (mad E (o_7))), (0, .ref (mad E (y0)))]) hx hb dX3_loseTrain_64 hl (k := 3) rfl (by rw [← e_v_19]; rfl) (by decide) rfl (fun ls hl => ?_)
          refine lv_goto (tgt := 26) hx hb dX3_loseTrain_67 (by decide) ?_
          exact ih _ _ _ _ _ _ hT Z (lv_sub hl [3, 0] rfl) k0
set_option maxHeartbeats 4000000 in
set_option maxRecDepth 100000 in
theorem c3_loseTrain (l : Launch) (E : mE) (hJ : mJ E) {c : Nat} (hc : mSt E c) (x1 : Int32) (G : mM) (q : mM) (hT : x3_loseTrain c x1 G = some q) : mMet l E yX3_loseTrain cX3_loseTrain 6 none 1 21 [.ref (mad E (c)), .int (x1)] G (none) q := by
  refine Met.ofW (cc := cX3_loseTrain) (maxL := 6) (ret := none) (by decide) rfl ?_
  intro p e s m args below meth cd s₁ B hml hv
  obtain ⟨rfl, hP, hK, hS⟩ := hv
  have X := mx_entry (own := RX3) B hml hK hJ hS rfl
  have hx := X.1
  have hb := X.2.1
  have hown := X.2.2.2.1
  have hts := X.2.2.2.2.1
  have hr := B.returns
  have hlocks := B.notSynchronized
  have hR : 1 ≤ (headSpec (mWs yX3_loseTrain cX3_loseTrain 6 none) ({ frames := 1, cells := 0, slots := 0, locals := 21 })).room.frames ∧ 21 ≤ (headSpec (mWs yX3_loseTrain cX3_loseTrain 6 none) ({ frames := 1, cells := 0, slots := 0, locals := 21 })).room.locals := ⟨Nat.le_refl _, Nat.le_refl _⟩
  have Z : mZ E s.heap s.heap [] G := ⟨hP, va_S.rf⟩
  have hl := lv_entry ([.ref (mad E (c)), .int (x1)]) (n := 6) (Nat.le_of_ble_eq_true rfl)
  rw [lg_entry_eq]
  generalize (lg_sl ([.ref (mad E (c)), .int (x1)]) ++ List.replicate (6 - (lg_sl ([.ref (mad E (c)), .int (x1)])).length) Slot.unset).toArray = ls at hl ⊢
  have hl : lv_has ls 6 [(0, .ref (mad E (c))), (1, .int (x1))] := hl
  unfold x3_loseTrain at hT
  refine lv_aload_n hx hb dX3_loseTrain_0 rfl (lv_at hl 0 rfl) ?_
  refine lv_iload_n hx hb dX3_loseTrain_1 rfl (lv_at hl 1 rfl) ?_
  obtain ⟨q_1, h_q_1, hT⟩ := mx_bind hT
  refine mx_callV (As := [.int (x1)]) (rest := []) (st1 := [va_re (mad E) q_1]) (C := RX3) (T := TX3) (N := 11) (ci := 3) X Z hl.1 (c3_trainAt l E hJ hc _ _ _ h_q_1) wd_11_0 wd_11_1 wd_11_2 wd_1_16 wd_11_3 hd3_trainAt ⟨Nat.le_trans (by decide) hR.1, Nat.le_trans (by decide) hR.2⟩ ⟨Nat.zero_le _, Nat.zero_le _⟩ hc.i (hc.c _) rfl (Nat.le_of_ble_eq_true rfl) rfl rfl dX3_loseTrain_2 (fun H locs Z => ?_)
  have hk_3 := c3_trainAt_k E hc _ _ _ h_q_1
  rcases q_1 with _ | o_2
  · replace hT := mx_on hT
    refine mx_tops (s2 := [.null]) rfl ?_
    refine lv_astore_nN (lv' := [(2, .null), (0, .ref (mad E (c))), (1, .int (x1))]) hx hb dX3_loseTrain_5 rfl hl (by decide) rfl (fun ls hl => ?_)
    refine lv_aload_nN hx hb dX3_loseTrain_6 rfl (lv_at hl 0 rfl) ?_
    refine lv_ifnonnullN hx hb dX3_loseTrain_7 ?_
    cases hT
    exact W.vret hx hb hr (fun t ht hW => mx_end Z t ht _) Z.2.2.2 dX3_loseTrain_10
  · replace hT := mx_os hT
    refine mx_tops (s2 := [.ref (mad E o_2)]) rfl ?_
    refine lv_astore_n (lv' := [(2, .ref (mad E (o_2))), (0, .ref (mad E (c))), (1, .int (x1))]) hx hb dX3_loseTrain_5 rfl hl (by decide) rfl (fun ls hl => ?_)
    refine lv_aload_n hx hb dX3_loseTrain_6 rfl (lv_at hl 0 rfl) ?_
    refine lv_ifnonnull (tgt := 11) hx hb dX3_loseTrain_7 (by decide) ?_
    refine lv_aload_n hx hb dX3_loseTrain_11 rfl (lv_at hl 1 rfl) ?_
    refine lv_dup hx hb dX3_loseTrain_12 rfl ?_
    refine mx_get (v := .int (G c 8)) (ci := 3) (C := RX3) (T := TX3) (N := 11) X Z hc.i (hc.c _) rfl inlX3 8 (by decide) wd_8_14 rfl dX3_loseTrain_13 ?_
    refine lv_aload_n hx hb dX3_loseTrain_16 rfl (lv_at hl 0 rfl) ?_
    refine mx_get (v := .int (G o_2 2)) (ci := 4) (C := RX4) (T := TX4) (N := 10) X Z ((hk_3 o_2 rfl)).i (((hk_3 o_2 rfl)).c _) rfl inlX4 2 (by decide) wd_15_6 rfl dX3_loseTrain_17 ?_
    refine lv_iadd hx hb dX3_loseTrain_20 ?_
    obtain ⟨G_4, e_G_4, hT⟩ := mx_nm hT
    refine mx_put (ci := 3) (C := RX3) (T := TX3) (N := 11) X Z hc.i (hc.c _) rfl inlX3 tyX3 tyX3_ok nmX3 8 (by decide) wd_8_14 rfl rfl rfl (by show 8 < 11; decide) ((hc.c _).trans (congrArg (fun z => Sum.inr (3, z)) (sp_St_8 (mad E) _ _ _))) dX3_loseTrain_21 (fun H locs Z => ?_)
    rw [e_G_4] at Z
    refine lv_iload_n hx hb dX3_loseTrain_24 rfl (lv_at hl 2 rfl) ?_
    refine lv_istore_n (lv' := [(3, .int (x1)), (2, .ref (mad E (o_2))), (0, .ref (mad E (c))), (1, .int (x1))]) hx hb dX3_loseTrain_25 rfl hl (by decide) rfl (fun ls hl => ?_)
    obtain ⟨q_20, h_q_20, hT⟩ := mx_bind hT
    refine k3_loseTrain_26 X hR hJ hc  _ _ _ _ _ _ _ h_q_20 Z (lv_sub (l' := [(0, .ref (mad E (c))), (3, .int (x1))]) hl [2, 0] rfl) (fun H locs ls Z hl => ?_)
    · refine lv_aload_n hx hb dX3_loseTrain_70 rfl (lv_at hl 0 rfl) ?_
      refine lv_dup hx hb dX3_loseTrain_71 rfl ?_
      refine mx_get (v := .int (q_20 c 4)) (ci := 3) (C := RX3) (T := TX3) (N := 11) X Z hc.i (hc.c _) rfl inlX3 4 (by decide) wd_8_10 rfl dX3_loseTrain_72 ?_
      refine lv_iconst (v := (1 : Int32)) hx hb dX3_loseTrain_75 (by decide) ?_
      refine lv_isub hx hb dX3_loseTrain_76 ?_
      obtain ⟨G_21, e_G_21, hT⟩ := mx_nm hT
      refine mx_put (ci := 3) (C := RX3) (T := TX3) (N := 11) X Z hc.i (hc.c _) rfl inlX3 tyX3 tyX3_ok nmX3 4 (by decide) wd_8_10 rfl rfl rfl (by show 4 < 11; decide) ((hc.c _).trans (congrArg (fun z => Sum.inr (3, z)) (sp_St_4 (mad E) _ _ _))) dX3_loseTrain_77 (fun H locs Z => ?_)
      rw [e_G_21] at Z
      cases hT
      exact W.vret hx hb hr (fun t ht hW => mx_end Z t ht _) Z.2.2.2 dX3_loseTrain_80
/-! PeatRailway.dropTrain -/
def x5_dropTrain (x1 : Int32) (G : mM) : Option (Int32 × mM) :=
  (x3_trainAt 0 x1 G).bind fun q_1 =>
  mOpt q_1 (
    some ((-2 : Int32), G)) fun o_2 =>
    (x0_remember 0 G).bind fun q_4 =>
    mNm (q_4 o_2 2) fun v_5 =>
    (x3_loseTrain 0 x1 q_4).bind fun q_6 =>
    some (v_5, q_6)
theorem hd5_dropTrain : yX5_dropTrain.cls = RX5 ∧ yX5_dropTrain.cls ≠ "java/lang/invoke/MethodHandle" ∧ yX5_dropTrain.cls ≠ "java/lang/invoke/VarHandle" ∧ (parseMethodDescriptor yX5_dropTrain.desc).map (fun d => d.parameters.length) = some 1 := by decide +kernel
set_option maxHeartbeats 4000000 in
set_option maxRecDepth 100000 in
theorem c5_dropTrain (l : Launch) (E : mE) (hJ : mJ E) (hc : mAl E 240) (x1 : Int32) (G : mM) (q : (Int32 × mM)) (hT : x5_dropTrain x1 G = some q) : mMet l E yX5_dropTrain cX5_dropTrain 4 (some .int) 3 64 [.ref (mad E (240)), .int (x1)] G (some (.int q.1)) q.2 := by
  refine Met.ofW (cc := cX5_dropTrain) (maxL := 4) (ret := (some .int)) (by decide) rfl ?_
  intro p e s m args below meth cd s₁ B hml hv
  obtain ⟨rfl, hP, hK, hS⟩ := hv
  have X := mx_entry (own := RX5) B hml hK hJ hS rfl
  have hx := X.1
  have hb := X.2.1
  have hown := X.2.2.2.1
  have hts := X.2.2.2.2.1
  have hr := B.returns
  have hlocks := B.notSynchronized
  have hR : 3 ≤ (headSpec (mWs yX5_dropTrain cX5_dropTrain 4 (some .int)) ({ frames := 3, cells := 0, slots := 0, locals := 64 })).room.frames ∧ 64 ≤ (headSpec (mWs yX5_dropTrain cX5_dropTrain 4 (some .int)) ({ frames := 3, cells := 0, slots := 0, locals := 64 })).room.locals := ⟨Nat.le_refl _, Nat.le_refl _⟩
  have Z : mZ E s.heap s.heap [] G := ⟨hP, va_S.rf⟩
  have hl := lv_entry ([.ref (mad E (240)), .int (x1)]) (n := 4) (Nat.le_of_ble_eq_true rfl)
  rw [lg_entry_eq]
  generalize (lg_sl ([.ref (mad E (240)), .int (x1)]) ++ List.replicate (4 - (lg_sl ([.ref (mad E (240)), .int (x1)])).length) Slot.unset).toArray = ls at hl ⊢
  have hl : lv_has ls 4 [(0, .ref (mad E (240))), (1, .int (x1))] := hl
  unfold x5_dropTrain at hT
  refine lv_aload_n hx hb dX5_dropTrain_0 rfl (lv_at hl 0 rfl) ?_
  refine mx_get (v := .ref (mad E (0))) (ci := 5) (C := RX5) (T := TX5) (N := 6) X Z hc.i (hc.c _) rfl inlX5 1 (by decide) wd_1_18 rfl dX5_dropTrain_1 ?_
  refine lv_iload_n hx hb dX5_dropTrain_4 rfl (lv_at hl 1 rfl) ?_
  obtain ⟨q_1, h_q_1, hT⟩ := mx_bind hT
  refine mx_callV (As := [.int (x1)]) (rest := []) (st1 := [va_re (mad E) q_1]) (C := RX3) (T := TX3) (N := 11) (ci := 3) X Z hl.1 (c3_trainAt l E hJ hc.now _ _ _ h_q_1) wd_12_20 wd_11_1 wd_11_2 wd_1_16 wd_11_3 hd3_trainAt ⟨Nat.le_trans (by decide) hR.1, Nat.le_trans (by decide) hR.2⟩ ⟨Nat.zero_le _, Nat.zero_le _⟩ hc.now.i (hc.now.c _) rfl (Nat.le_of_ble_eq_true rfl) rfl rfl dX5_dropTrain_5 (fun H locs Z => ?_)
  have hk_3 := c3_trainAt_k E hc.now _ _ _ h_q_1
  rcases q_1 with _ | o_2
  · replace hT := mx_on hT
    refine mx_tops (s2 := [.null]) rfl ?_
    refine lv_astore_nN (lv' := [(2, .null), (0, .ref (mad E (240))), (1, .int (x1))]) hx hb dX5_dropTrain_8 rfl hl (by decide) rfl (fun ls hl => ?_)
    refine lv_aload_nN hx hb dX5_dropTrain_9 rfl (lv_at hl 0 rfl) ?_
    refine lv_ifnonnullN hx hb dX5_dropTrain_10 ?_
    refine lv_bipush (v := (-2 : Int32)) hx hb dX5_dropTrain_13 (by decide) ?_
    cases hT
    exact W.iret hx hb hr (fun t ht hW => mx_end Z t ht _) Z.2.2.2 dX5_dropTrain_15
  · replace hT := mx_os hT
    refine mx_tops (s2 := [.ref (mad E o_2)]) rfl ?_
    refine lv_astore_n (lv' := [(2, .ref (mad E (o_2))), (0, .ref (mad E (240))), (1, .int (x1))]) hx hb dX5_dropTrain_8 rfl hl (by decide) rfl (fun ls hl => ?_)
    refine lv_aload_n hx hb dX5_dropTrain_9 rfl (lv_at hl 0 rfl) ?_
    refine lv_ifnonnull (tgt := 16) hx hb dX5_dropTrain_10 (by decide) ?_
    refine lv_aload_n hx hb dX5_dropTrain_16 rfl (lv_at hl 1 rfl) ?_
    refine mx_get (v := .ref (mad E (243))) (ci := 5) (C := RX5) (T := TX5) (N := 6) X Z hc.i (hc.c _) rfl inlX5 3 (by decide) wd_1_23 rfl dX5_dropTrain_17 ?_
    refine lv_aload_n hx hb dX5_dropTrain_20 rfl (lv_at hl 1 rfl) ?_
    refine mx_get (v := .ref (mad E (0))) (ci := 5) (C := RX5) (T := TX5) (N := 6) X Z hc.i (hc.c _) rfl inlX5 1 (by decide) wd_1_18 rfl dX5_dropTrain_21 ?_
    obtain ⟨q_4, h_q_4, hT⟩ := mx_bind hT
    refine mx_callV (As := [.ref (mad E (0))]) (rest := []) (st1 := []) (C := RX0) (T := TX0) (N := 2) (ci := 0) X Z hl.1 (c0_remember l E hJ hc.hi hc.now _ _ h_q_4) wd_9_20 wd_9_21 wd_9_22 wd_1_22 wd_9_23 hd0_remember ⟨Nat.le_trans (by decide) hR.1, Nat.le_trans (by decide) hR.2⟩ ⟨Nat.zero_le _, Nat.zero_le _⟩ hc.hi.i (hc.hi.c _) rfl (Nat.le_of_ble_eq_true rfl) rfl rfl dX5_dropTrain_24 (fun H locs Z => ?_)
    refine lv_aload_n hx hb dX5_dropTrain_27 rfl (lv_at hl 0 rfl) ?_
    refine mx_get (v := .int (q_4 o_2 2)) (ci := 4) (C := RX4) (T := TX4) (N := 10) X Z ((hk_3 o_2 rfl)).i (((hk_3 o_2 rfl)).c _) rfl inlX4 2 (by decide) wd_12_13 rfl dX5_dropTrain_28 ?_
    obtain ⟨v_5, e_v_5, hT⟩ := mx_nm hT
    refine mx_tops (congrArg (fun z => (.int (z) :: [] : List Value)) e_v_5) ?_
    refine lv_istore_n (lv' := [(3, .int (v_5)), (2, .ref (mad E (o_2))), (0, .ref (mad E (240))), (1, .int (x1))]) hx hb dX5_dropTrain_31 rfl hl (by decide) rfl (fun ls hl => ?_)
    refine lv_aload_n hx hb dX5_dropTrain_32 rfl (lv_at hl 2 rfl) ?_
    refine mx_get (v := .ref (mad E (0))) (ci := 5) (C := RX5) (T := TX5) (N := 6) X Z hc.i (hc.c _) rfl inlX5 1 (by decide) wd_1_18 rfl dX5_dropTrain_33 ?_
    refine lv_iload_n hx hb dX5_dropTrain_36 rfl (lv_at hl 3 rfl) ?_
    obtain ⟨q_6, h_q_6, hT⟩ := mx_bind hT
    refine mx_callV (As := [.int (x1)]) (rest := []) (st1 := []) (C := RX3) (T := TX3) (N := 11) (ci := 3) X Z hl.1 (c3_loseTrain l E hJ hc.now _ _ _ h_q_6) wd_22_19 wd_22_20 wd_22_21 wd_1_16 wd_22_22 hd3_loseTrain ⟨Nat.le_trans (by decide) hR.1, Nat.le_trans (by decide) hR.2⟩ ⟨Nat.zero_le _, Nat.zero_le _⟩ hc.now.i (hc.now.c _) rfl (Nat.le_of_ble_eq_true rfl) rfl rfl dX5_dropTrain_37 (fun H locs Z => ?_)
    refine lv_iload_n hx hb dX5_dropTrain_40 rfl (lv_at hl 0 rfl) ?_
    cases hT
    exact W.iret hx hb hr (fun t ht hW => mx_end Z t ht _) Z.2.2.2 dX5_dropTrain_41
/-! PeatRailway.setLoad -/
def x5_setLoad (x1 : Int32) (x2 : Int32) (G : mM) : Option (Int32 × mM) :=
  (x3_trainAt 0 x1 G).bind fun q_1 =>
  mOpt q_1 (
    some ((-2 : Int32), G)) fun o_2 =>
    (x5_isLoad x2 G).bind fun q_4 =>
    if q_4 = 0 then
      some ((-2 : Int32), G)
    else
      (x0_remember 0 G).bind fun q_6 =>
      mNm (q_6 o_2 1) fun v_7 =>
      mNm (up2 q_6 o_2 1 x2) fun G_8 =>
      some (v_7, G_8)
theorem hd5_setLoad : yX5_setLoad.cls = RX5 ∧ yX5_setLoad.cls ≠ "java/lang/invoke/MethodHandle" ∧ yX5_setLoad.cls ≠ "java/lang/invoke/VarHandle" ∧ (parseMethodDescriptor yX5_setLoad.desc).map (fun d => d.parameters.length) = some 2 := by decide +kernel
set_option maxHeartbeats 4000000 in
set_option maxRecDepth 100000 in
theorem c5_setLoad (l : Launch) (E : mE) (hJ : mJ E) (hc : mAl E 240) (x1 : Int32) (x2 : Int32) (G : mM) (q : (Int32 × mM)) (hT : x5_setLoad x1 x2 G = some q) : mMet l E yX5_setLoad cX5_setLoad 5 (some .int) 3 64 [.ref (mad E (240)), .int (x1), .int (x2)] G (some (.int q.1)) q.2 := by
  refine Met.ofW (cc := cX5_setLoad) (maxL := 5) (ret := (some .int)) (by decide) rfl ?_
  intro p e s m args below meth cd s₁ B hml hv
  obtain ⟨rfl, hP, hK, hS⟩ := hv
  have X := mx_entry (own := RX5) B hml hK hJ hS rfl
  have hx := X.1
  have hb := X.2.1
  have hown := X.2.2.2.1
  have hts := X.2.2.2.2.1
  have hr := B.returns
  have hlocks := B.notSynchronized
  have hR : 3 ≤ (headSpec (mWs yX5_setLoad cX5_setLoad 5 (some .int)) ({ frames := 3, cells := 0, slots := 0, locals := 64 })).room.frames ∧ 64 ≤ (headSpec (mWs yX5_setLoad cX5_setLoad 5 (some .int)) ({ frames := 3, cells := 0, slots := 0, locals := 64 })).room.locals := ⟨Nat.le_refl _, Nat.le_refl _⟩
  have Z : mZ E s.heap s.heap [] G := ⟨hP, va_S.rf⟩
  have hl := lv_entry ([.ref (mad E (240)), .int (x1), .int (x2)]) (n := 5) (Nat.le_of_ble_eq_true rfl)
  rw [lg_entry_eq]
  generalize (lg_sl ([.ref (mad E (240)), .int (x1), .int (x2)]) ++ List.replicate (5 - (lg_sl ([.ref (mad E (240)), .int (x1), .int (x2)])).length) Slot.unset).toArray = ls at hl ⊢
  have hl : lv_has ls 5 [(0, .ref (mad E (240))), (1, .int (x1)), (2, .int (x2))] := hl
  unfold x5_setLoad at hT
  refine lv_aload_n hx hb dX5_setLoad_0 rfl (lv_at hl 0 rfl) ?_
  refine mx_get (v := .ref (mad E (0))) (ci := 5) (C := RX5) (T := TX5) (N := 6) X Z hc.i (hc.c _) rfl inlX5 1 (by decide) wd_1_18 rfl dX5_setLoad_1 ?_
  refine lv_iload_n hx hb dX5_setLoad_4 rfl (lv_at hl 1 rfl) ?_
  obtain ⟨q_1, h_q_1, hT⟩ := mx_bind hT
  refine mx_callV (As := [.int (x1)]) (rest := []) (st1 := [va_re (mad E) q_1]) (C := RX3) (T := TX3) (N := 11) (ci := 3) X Z hl.1 (c3_trainAt l E hJ hc.now _ _ _ h_q_1) wd_12_20 wd_11_1 wd_11_2 wd_1_16 wd_11_3 hd3_trainAt ⟨Nat.le_trans (by decide) hR.1, Nat.le_trans (by decide) hR.2⟩ ⟨Nat.zero_le _, Nat.zero_le _⟩ hc.now.i (hc.now.c _) rfl (Nat.le_of_ble_eq_true rfl) rfl rfl dX5_setLoad_5 (fun H locs Z => ?_)
  have hk_3 := c3_trainAt_k E hc.now _ _ _ h_q_1
  rcases q_1 with _ | o_2
  · replace hT := mx_on hT
    refine mx_tops (s2 := [.null]) rfl ?_
    refine lv_astore_nN (lv' := [(3, .null), (0, .ref (mad E (240))), (1, .int (x1)), (2, .int (x2))]) hx hb dX5_setLoad_8 rfl hl (by decide) rfl (fun ls hl => ?_)
    refine lv_aload_nN hx hb dX5_setLoad_9 rfl (lv_at hl 0 rfl) ?_
    refine lv_ifnullN (tgt := 20) hx hb dX5_setLoad_10 (by decide) ?_
    refine lv_bipush (v := (-2 : Int32)) hx hb dX5_setLoad_20 (by decide) ?_
    cases hT
    exact W.iret hx hb hr (fun t ht hW => mx_end Z t ht _) Z.2.2.2 dX5_setLoad_22
  · replace hT := mx_os hT
    refine mx_tops (s2 := [.ref (mad E o_2)]) rfl ?_
    refine lv_astore_n (lv' := [(3, .ref (mad E (o_2))), (0, .ref (mad E (240))), (1, .int (x1)), (2, .int (x2))]) hx hb dX5_setLoad_8 rfl hl (by decide) rfl (fun ls hl => ?_)
    refine lv_aload_n hx hb dX5_setLoad_9 rfl (lv_at hl 0 rfl) ?_
    refine lv_ifnull hx hb dX5_setLoad_10 ?_
    refine lv_iload_n hx hb dX5_setLoad_13 rfl (lv_at hl 3 rfl) ?_
    obtain ⟨q_4, h_q_4, hT⟩ := mx_bind hT
    refine mx_callS (As := [.int (x2)]) (rest := []) (st1 := [.int (q_4)]) X Z hl.1 (c5_isLoad l E hJ _ _ _ h_q_4) wd_20_7 wd_20_8 wd_1_2 wd_20_9 hd5_isLoad ⟨Nat.le_trans (by decide) hR.1, Nat.le_trans (by decide) hR.2⟩ ⟨Nat.zero_le _, Nat.zero_le _⟩ (Nat.le_of_ble_eq_true rfl) rfl rfl dX5_setLoad_14 (fun H locs Z => ?_)
    refine lv_if_ne (tgt := 23) hx hb dX5_setLoad_17 (by decide) (fun h_5 => ?_) (fun h_5 => ?_)
    · replace hT := mx_f hT h_5
      refine lv_aload_n hx hb dX5_setLoad_23 rfl (lv_at hl 1 rfl) ?_
      refine mx_get (v := .ref (mad E (243))) (ci := 5) (C := RX5) (T := TX5) (N := 6) X Z hc.i (hc.c _) rfl inlX5 3 (by decide) wd_1_23 rfl dX5_setLoad_24 ?_
      refine lv_aload_n hx hb dX5_setLoad_27 rfl (lv_at hl 1 rfl) ?_
      refine mx_get (v := .ref (mad E (0))) (ci := 5) (C := RX5) (T := TX5) (N := 6) X Z hc.i (hc.c _) rfl inlX5 1 (by decide) wd_1_18 rfl dX5_setLoad_28 ?_
      obtain ⟨q_6, h_q_6, hT⟩ := mx_bind hT
      refine mx_callV (As := [.ref (mad E (0))]) (rest := []) (st1 := []) (C := RX0) (T := TX0) (N := 2) (ci := 0) X Z hl.1 (c0_remember l E hJ hc.hi hc.now _ _ h_q_6) wd_9_20 wd_9_21 wd_9_22 wd_1_22 wd_9_23 hd0_remember ⟨Nat.le_trans (by decide) hR.1, Nat.le_trans (by decide) hR.2⟩ ⟨Nat.zero_le _, Nat.zero_le _⟩ hc.hi.i (hc.hi.c _) rfl (Nat.le_of_ble_eq_true rfl) rfl rfl dX5_setLoad_31 (fun H locs Z => ?_)
      refine lv_aload_n hx hb dX5_setLoad_34 rfl (lv_at hl 0 rfl) ?_
      refine mx_get (v := .int (q_6 o_2 1)) (ci := 4) (C := RX4) (T := TX4) (N := 10) X Z ((hk_3 o_2 rfl)).i (((hk_3 o_2 rfl)).c _) rfl inlX4 1 (by decide) wd_12_12 rfl dX5_setLoad_35 ?_
      obtain ⟨v_7, e_v_7, hT⟩ := mx_nm hT
      refine mx_tops (congrArg (fun z => (.int (z) :: [] : List Value)) e_v_7) ?_
      refine lv_istore (lv' := [(4, .int (v_7)), (3, .ref (mad E (o_2))), (0, .ref (mad E (240))), (1, .int (x1)), (2, .int (x2))]) hx hb dX5_setLoad_38 hl (by decide) rfl (fun ls hl => ?_)
      refine lv_aload_n hx hb dX5_setLoad_40 rfl (lv_at hl 1 rfl) ?_
      refine lv_iload_n hx hb dX5_setLoad_41 rfl (lv_at hl 4 rfl) ?_
      obtain ⟨G_8, e_G_8, hT⟩ := mx_nm hT
      refine mx_put (ci := 4) (C := RX4) (T := TX4) (N := 10) X Z ((hk_3 o_2 rfl)).i (((hk_3 o_2 rfl)).c _) rfl inlX4 tyX4 tyX4_ok nmX4 1 (by decide) wd_12_12 rfl rfl rfl (by show 1 < 10; decide) ((((hk_3 o_2 rfl)).c _).trans (congrArg (fun z => Sum.inr (4, z)) (sp_Tr_1 _ _ _))) dX5_setLoad_42 (fun H locs Z => ?_)
      rw [e_G_8] at Z
      refine lv_iload hx hb dX5_setLoad_45 (lv_at hl 0 rfl) ?_
      cases hT
      exact W.iret hx hb hr (fun t ht hW => mx_end Z t ht _) Z.2.2.2 dX5_setLoad_47
    · replace hT := mx_t hT h_5
      refine lv_bipush (v := (-2 : Int32)) hx hb dX5_setLoad_20 (by decide) ?_
      cases hT
      exact W.iret hx hb hr (fun t ht hW => mx_end Z t ht _) Z.2.2.2 dX5_setLoad_22
/-! PeatRailway.isRun -/
def x5_isRun (x0 : Int32) (G : mM) : Option Int32 :=
  if x0 < ((1 : Int32)) then
    some ((0 : Int32))
  else
    if ((200 : Int32)) < x0 then
      some ((0 : Int32))
    else
      some ((1 : Int32))
theorem hd5_isRun : yX5_isRun.cls ≠ "java/lang/invoke/MethodHandle" ∧ yX5_isRun.cls ≠ "java/lang/invoke/VarHandle" ∧ (parseMethodDescriptor yX5_isRun.desc).map (fun d => d.parameters.length) = some 1 := by decide +kernel
set_option maxHeartbeats 4000000 in
set_option maxRecDepth 100000 in
theorem c5_isRun (l : Launch) (E : mE) (hJ : mJ E) (x0 : Int32) (G : mM) (q : Int32) (hT : x5_isRun x0 G = some q) : mMet l E yX5_isRun cX5_isRun 1 (some .boolean) 0 0 [.int (x0)] G (some (.int q)) G := by
  refine Met.ofW (cc := cX5_isRun) (maxL := 1) (ret := (some .boolean)) (by decide) rfl ?_
  intro p e s m args below meth cd s₁ B hml hv
  obtain ⟨rfl, hP, hK, hS⟩ := hv
  have X := mx_entry (own := RX5) B hml hK hJ hS rfl
  have hx := X.1
  have hb := X.2.1
  have hown := X.2.2.2.1
  have hts := X.2.2.2.2.1
  have hr := B.returns
  have hlocks := B.notSynchronized
  have hR : 0 ≤ (headSpec (mWs yX5_isRun cX5_isRun 1 (some .boolean)) ({ frames := 0, cells := 0, slots := 0, locals := 0 })).room.frames ∧ 0 ≤ (headSpec (mWs yX5_isRun cX5_isRun 1 (some .boolean)) ({ frames := 0, cells := 0, slots := 0, locals := 0 })).room.locals := ⟨Nat.le_refl _, Nat.le_refl _⟩
  have Z : mZ E s.heap s.heap [] G := ⟨hP, va_S.rf⟩
  have hl := lv_entry ([.int (x0)]) (n := 1) (Nat.le_of_ble_eq_true rfl)
  rw [lg_entry_eq]
  generalize (lg_sl ([.int (x0)]) ++ List.replicate (1 - (lg_sl ([.int (x0)])).length) Slot.unset).toArray = ls at hl ⊢
  have hl : lv_has ls 1 [(0, .int (x0))] := hl
  unfold x5_isRun at hT
  refine lv_iload_n hx hb dX5_isRun_0 rfl (lv_at hl 0 rfl) ?_
  refine lv_iconst (v := (1 : Int32)) hx hb dX5_isRun_1 (by decide) ?_
  refine lv_icmp_lt (tgt := 16) hx hb dX5_isRun_2 (by decide) (fun h_1 => ?_) (fun h_1 => ?_)
  · replace hT := mx_t hT h_1
    refine lv_iconst (v := (0 : Int32)) hx hb dX5_isRun_16 (by decide) ?_
    cases hT
    exact W.zret (v := (0 : Int32)) hx hb hr rfl (fun t ht hW => mx_end Z t ht _) Z.2.2.2 dX5_isRun_17
  · replace hT := mx_f hT h_1
    refine lv_iload_n hx hb dX5_isRun_5 rfl (lv_at hl 0 rfl) ?_
    refine lv_sipush (v := (200 : Int32)) hx hb dX5_isRun_6 (by decide) ?_
    refine lv_icmp_gt (tgt := 16) hx hb dX5_isRun_9 (by decide) (fun h_2 => ?_) (fun h_2 => ?_)
    · replace hT := mx_t hT h_2
      refine lv_iconst (v := (0 : Int32)) hx hb dX5_isRun_16 (by decide) ?_
      cases hT
      exact W.zret (v := (0 : Int32)) hx hb hr rfl (fun t ht hW => mx_end Z t ht _) Z.2.2.2 dX5_isRun_17
    · replace hT := mx_f hT h_2
      refine lv_iconst (v := (1 : Int32)) hx hb dX5_isRun_12 (by decide) ?_
      refine lv_goto (tgt := 17) hx hb dX5_isRun_13 (by decide) ?_
      cases hT
      exact W.zret (v := (1 : Int32)) hx hb hr rfl (fun t ht hW => mx_end Z t ht _) Z.2.2.2 dX5_isRun_17
/-! PeatRailway$State.goesFirst -/
def x3_goesFirst (c : Nat) (d1 : Nat) (G : mM) : Option Int32 :=
  mNm (G ((c + 3)) 2) fun v_1 =>
  if v_1 = ((2 : Int32)) then
    some ((1 : Int32))
  else
    if v_1 = 0 then
      if (G d1 4) = ((1 : Int32)) then
        some ((1 : Int32))
      else
        some ((0 : Int32))
    else
      if (G d1 4) = ((0 : Int32)) then
        some ((1 : Int32))
      else
        some ((0 : Int32))
theorem hd3_goesFirst : yX3_goesFirst.cls = RX3 ∧ yX3_goesFirst.cls ≠ "java/lang/invoke/MethodHandle" ∧ yX3_goesFirst.cls ≠ "java/lang/invoke/VarHandle" ∧ (parseMethodDescriptor yX3_goesFirst.desc).map (fun d => d.parameters.length) = some 1 := by decide +kernel
set_option maxHeartbeats 4000000 in
set_option maxRecDepth 100000 in
theorem c3_goesFirst (l : Launch) (E : mE) (hJ : mJ E) {c : Nat} {d1 : Nat} (hc : mSt E c) (hd1 : mTr E d1) (G : mM) (q : Int32) (hT : x3_goesFirst c d1 G = some q) : mMet l E yX3_goesFirst cX3_goesFirst 3 (some .boolean) 0 0 [.ref (mad E (c)), .ref (mad E (d1))] G (some (.int q)) G := by
  refine Met.ofW (cc := cX3_goesFirst) (maxL := 3) (ret := (some .boolean)) (by decide) rfl ?_
  intro p e s m args below meth cd s₁ B hml hv
  obtain ⟨rfl, hP, hK, hS⟩ := hv
  have X := mx_entry (own := RX3) B hml hK hJ hS rfl
  have hx := X.1
  have hb := X.2.1
  have hown := X.2.2.2.1
  have hts := X.2.2.2.2.1
  have hr := B.returns
  have hlocks := B.notSynchronized
  have hR : 0 ≤ (headSpec (mWs yX3_goesFirst cX3_goesFirst 3 (some .boolean)) ({ frames := 0, cells := 0, slots := 0, locals := 0 })).room.frames ∧ 0 ≤ (headSpec (mWs yX3_goesFirst cX3_goesFirst 3 (some .boolean)) ({ frames := 0, cells := 0, slots := 0, locals := 0 })).room.locals := ⟨Nat.le_refl _, Nat.le_refl _⟩
  have Z : mZ E s.heap s.heap [] G := ⟨hP, va_S.rf⟩
  have hl := lv_entry ([.ref (mad E (c)), .ref (mad E (d1))]) (n := 3) (Nat.le_of_ble_eq_true rfl)
  rw [lg_entry_eq]
  generalize (lg_sl ([.ref (mad E (c)), .ref (mad E (d1))]) ++ List.replicate (3 - (lg_sl ([.ref (mad E (c)), .ref (mad E (d1))])).length) Slot.unset).toArray = ls at hl ⊢
  have hl : lv_has ls 3 [(0, .ref (mad E (c))), (1, .ref (mad E (d1)))] := hl
  unfold x3_goesFirst at hT
  refine lv_aload_n hx hb dX3_goesFirst_0 rfl (lv_at hl 0 rfl) ?_
  refine mx_get (v := .ref (mad E ((c + 3)))) (ci := 3) (C := RX3) (T := TX3) (N := 11) X Z hc.i (hc.c _) rfl inlX3 2 (by decide) wd_5_1 rfl dX3_goesFirst_1 ?_
  refine lv_iconst (v := (2 : Int32)) hx hb dX3_goesFirst_4 (by decide) ?_
  refine mx_iald X Z hc.sets (mx_lit (by decide)) dX3_goesFirst_5 ?_
  refine mx_tops (s2 := [.int (G ((c + 3)) 2)]) rfl ?_
  obtain ⟨v_1, e_v_1, hT⟩ := mx_nm hT
  refine mx_tops (congrArg (fun z => (.int (z) :: [] : List Value)) e_v_1) ?_
  refine lv_istore_n (lv' := [(2, .int (v_1)), (0, .ref (mad E (c))), (1, .ref (mad E (d1)))]) hx hb dX3_goesFirst_6 rfl hl (by decide) rfl (fun ls hl => ?_)
  refine lv_iload_n hx hb dX3_goesFirst_7 rfl (lv_at hl 0 rfl) ?_
  refine lv_iconst (v := (2 : Int32)) hx hb dX3_goesFirst_8 (by decide) ?_
  refine lv_icmp_eq (tgt := 28) hx hb dX3_goesFirst_9 (by decide) (fun h_2 => ?_) (fun h_2 => ?_)
  · replace hT := mx_t hT h_2
    refine lv_iconst (v := (1 : Int32)) hx hb dX3_goesFirst_28 (by decide) ?_
    refine lv_goto (tgt := 33) hx hb dX3_goesFirst_29 (by decide) ?_
    cases hT
    exact W.zret (v := (1 : Int32)) hx hb hr rfl (fun t ht hW => mx_end Z t ht _) Z.2.2.2 dX3_goesFirst_33
  · replace hT := mx_f hT h_2
    refine lv_aload_n hx hb dX3_goesFirst_12 rfl (lv_at hl 2 rfl) ?_
    refine mx_get (v := .int (G d1 4)) (ci := 4) (C := RX4) (T := TX4) (N := 10) X Z hd1.i (hd1.c _) rfl inlX4 4 (by decide) wd_13_7 rfl dX3_goesFirst_13 ?_
    refine lv_iload_n hx hb dX3_goesFirst_16 rfl (lv_at hl 0 rfl) ?_
    refine lv_if_ne (tgt := 24) hx hb dX3_goesFirst_17 (by decide) (fun h_3 => ?_) (fun h_3 => ?_)
    · replace hT := mx_f hT h_3
      refine lv_iconst (v := (0 : Int32)) hx hb dX3_goesFirst_24 (by decide) ?_
      refine lv_icmp_ne (tgt := 32) hx hb dX3_goesFirst_25 (by decide) (fun h_4 => ?_) (fun h_4 => ?_)
      · replace hT := mx_f hT h_4
        refine lv_iconst (v := (0 : Int32)) hx hb dX3_goesFirst_32 (by decide) ?_
        cases hT
        exact W.zret (v := (0 : Int32)) hx hb hr rfl (fun t ht hW => mx_end Z t ht _) Z.2.2.2 dX3_goesFirst_33
      · replace hT := mx_t hT h_4
        refine lv_iconst (v := (1 : Int32)) hx hb dX3_goesFirst_28 (by decide) ?_
        refine lv_goto (tgt := 33) hx hb dX3_goesFirst_29 (by decide) ?_
        cases hT
        exact W.zret (v := (1 : Int32)) hx hb hr rfl (fun t ht hW => mx_end Z t ht _) Z.2.2.2 dX3_goesFirst_33
    · replace hT := mx_t hT h_3
      refine lv_iconst (v := (1 : Int32)) hx hb dX3_goesFirst_20 (by decide) ?_
      refine lv_goto (tgt := 25) hx hb dX3_goesFirst_21 (by decide) ?_
      refine lv_icmp_ne (tgt := 32) hx hb dX3_goesFirst_25 (by decide) (fun h_5 => ?_) (fun h_5 => ?_)
      · replace hT := mx_f hT h_5
        refine lv_iconst (v := (0 : Int32)) hx hb dX3_goesFirst_32 (by decide) ?_
        cases hT
        exact W.zret (v := (0 : Int32)) hx hb hr rfl (fun t ht hW => mx_end Z t ht _) Z.2.2.2 dX3_goesFirst_33
      · replace hT := mx_t hT h_5
        refine lv_iconst (v := (1 : Int32)) hx hb dX3_goesFirst_28 (by decide) ?_
        refine lv_goto (tgt := 33) hx hb dX3_goesFirst_29 (by decide) ?_
        cases hT
        exact W.zret (v := (1 : Int32)) hx hb hr rfl (fun t ht hW => mx_end Z t ht _) Z.2.2.2 dX3_goesFirst_33
/-! PeatRailway$State.isToUnload -/
def x3_isToUnload (c : Nat) (d1 : Nat) (G : mM) : Option Int32 :=
  if (G d1 4) = 0 then
    some ((0 : Int32))
  else
    if (G d1 3) = ((G c 3) - ((1 : Int32))) then
      some ((1 : Int32))
    else
      some ((0 : Int32))
theorem hd3_isToUnload : yX3_isToUnload.cls = RX3 ∧ yX3_isToUnload.cls ≠ "java/lang/invoke/MethodHandle" ∧ yX3_isToUnload.cls ≠ "java/lang/invoke/VarHandle" ∧ (parseMethodDescriptor yX3_isToUnload.desc).map (fun d => d.parameters.length) = some 1 := by decide +kernel
set_option maxHeartbeats 4000000 in
set_option maxRecDepth 100000 in
theorem c3_isToUnload (l : Launch) (E : mE) (hJ : mJ E) {c : Nat} {d1 : Nat} (hc : mSt E c) (hd1 : mTr E d1) (G : mM) (q : Int32) (hT : x3_isToUnload c d1 G = some q) : mMet l E yX3_isToUnload cX3_isToUnload 2 (some .boolean) 0 0 [.ref (mad E (c)), .ref (mad E (d1))] G (some (.int q)) G := by
  refine Met.ofW (cc := cX3_isToUnload) (maxL := 2) (ret := (some .boolean)) (by decide) rfl ?_
  intro p e s m args below meth cd s₁ B hml hv
  obtain ⟨rfl, hP, hK, hS⟩ := hv
  have X := mx_entry (own := RX3) B hml hK hJ hS rfl
  have hx := X.1
  have hb := X.2.1
  have hown := X.2.2.2.1
  have hts := X.2.2.2.2.1
  have hr := B.returns
  have hlocks := B.notSynchronized
  have hR : 0 ≤ (headSpec (mWs yX3_isToUnload cX3_isToUnload 2 (some .boolean)) ({ frames := 0, cells := 0, slots := 0, locals := 0 })).room.frames ∧ 0 ≤ (headSpec (mWs yX3_isToUnload cX3_isToUnload 2 (some .boolean)) ({ frames := 0, cells := 0, slots := 0, locals := 0 })).room.locals := ⟨Nat.le_refl _, Nat.le_refl _⟩
  have Z : mZ E s.heap s.heap [] G := ⟨hP, va_S.rf⟩
  have hl := lv_entry ([.ref (mad E (c)), .ref (mad E (d1))]) (n := 2) (Nat.le_of_ble_eq_true rfl)
  rw [lg_entry_eq]
  generalize (lg_sl ([.ref (mad E (c)), .ref (mad E (d1))]) ++ List.replicate (2 - (lg_sl ([.ref (mad E (c)), .ref (mad E (d1))])).length) Slot.unset).toArray = ls at hl ⊢
  have hl : lv_has ls 2 [(0, .ref (mad E (c))), (1, .ref (mad E (d1)))] := hl
  unfold x3_isToUnload at hT
  refine lv_aload_n hx hb dX3_isToUnload_0 rfl (lv_at hl 1 rfl) ?_
  refine mx_get (v := .int (G d1 4)) (ci := 4) (C := RX4) (T := TX4) (N := 10) X Z hd1.i (hd1.c _) rfl inlX4 4 (by decide) wd_13_7 rfl dX3_isToUnload_1 ?_
  refine lv_if_eq (tgt := 24) hx hb dX3_isToUnload_4 (by decide) (fun h_1 => ?_) (fun h_1 => ?_)
  · replace hT := mx_t hT h_1
    refine lv_iconst (v := (0 : Int32)) hx hb dX3_isToUnload_24 (by decide) ?_
    cases hT
    exact W.zret (v := (0 : Int32)) hx hb hr rfl (fun t ht hW => mx_end Z t ht _) Z.2.2.2 dX3_isToUnload_25
  · replace hT := mx_f hT h_1
    refine lv_aload_n hx hb dX3_isToUnload_7 rfl (lv_at hl 1 rfl) ?_
    refine mx_get (v := .int (G d1 3)) (ci := 4) (C := RX4) (T := TX4) (N := 10) X Z hd1.i (hd1.c _) rfl inlX4 3 (by decide) wd_10_23 rfl dX3_isToUnload_8 ?_
    refine lv_aload_n hx hb dX3_isToUnload_11 rfl (lv_at hl 0 rfl) ?_
    refine mx_get (v := .int (G c 3)) (ci := 3) (C := RX3) (T := TX3) (N := 11) X Z hc.i (hc.c _) rfl inlX3 3 (by decide) wd_5_16 rfl dX3_isToUnload_12 ?_
    refine lv_iconst (v := (1 : Int32)) hx hb dX3_isToUnload_15 (by decide) ?_
    refine lv_isub hx hb dX3_isToUnload_16 ?_
    refine lv_icmp_ne (tgt := 24) hx hb dX3_isToUnload_17 (by decide) (fun h_2 => ?_) (fun h_2 => ?_)
    · replace hT := mx_f hT h_2
      refine lv_iconst (v := (0 : Int32)) hx hb dX3_isToUnload_24 (by decide) ?_
      cases hT
      exact W.zret (v := (0 : Int32)) hx hb hr rfl (fun t ht hW => mx_end Z t ht _) Z.2.2.2 dX3_isToUnload_25
    · replace hT := mx_t hT h_2
      refine lv_iconst (v := (1 : Int32)) hx hb dX3_isToUnload_20 (by decide) ?_
      refine lv_goto (tgt := 25) hx hb dX3_isToUnload_21 (by decide) ?_
      cases hT
      exact W.zret (v := (1 : Int32)) hx hb hr rfl (fun t ht hW => mx_end Z t ht _) Z.2.2.2 dX3_isToUnload_25
/-! PeatRailway$State.isToLoad -/
def x3_isToLoad (c : Nat) (d1 : Nat) (G : mM) : Option Int32 :=
  if (G d1 4) = 0 then
    if (G d1 3) = 0 then
      some ((1 : Int32))
    else
      some ((0 : Int32))
  else
    some ((0 : Int32))
theorem hd3_isToLoad : yX3_isToLoad.cls = RX3 ∧ yX3_isToLoad.cls ≠ "java/lang/invoke/MethodHandle" ∧ yX3_isToLoad.cls ≠ "java/lang/invoke/VarHandle" ∧ (parseMethodDescriptor yX3_isToLoad.desc).map (fun d => d.parameters.length) = some 1 := by decide +kernel
set_option maxHeartbeats 4000000 in
set_option maxRecDepth 100000 in
theorem c3_isToLoad (l : Launch) (E : mE) (hJ : mJ E) {c : Nat} {d1 : Nat} (hc : mSt E c) (hd1 : mTr E d1) (G : mM) (q : Int32) (hT : x3_isToLoad c d1 G = some q) : mMet l E yX3_isToLoad cX3_isToLoad 2 (some .boolean) 0 0 [.ref (mad E (c)), .ref (mad E (d1))] G (some (.int q)) G := by
  refine Met.ofW (cc := cX3_isToLoad) (maxL := 2) (ret := (some .boolean)) (by decide) rfl ?_
  intro p e s m args below meth cd s₁ B hml hv
  obtain ⟨rfl, hP, hK, hS⟩ := hv
  have X := mx_entry (own := RX3) B hml hK hJ hS rfl
  have hx := X.1
  have hb := X.2.1
  have hown := X.2.2.2.1
  have hts := X.2.2.2.2.1
  have hr := B.returns
  have hlocks := B.notSynchronized
  have hR : 0 ≤ (headSpec (mWs yX3_isToLoad cX3_isToLoad 2 (some .boolean)) ({ frames := 0, cells := 0, slots := 0, locals := 0 })).room.frames ∧ 0 ≤ (headSpec (mWs yX3_isToLoad cX3_isToLoad 2 (some .boolean)) ({ frames := 0, cells := 0, slots := 0, locals := 0 })).room.locals := ⟨Nat.le_refl _, Nat.le_refl _⟩
  have Z : mZ E s.heap s.heap [] G := ⟨hP, va_S.rf⟩
  have hl := lv_entry ([.ref (mad E (c)), .ref (mad E (d1))]) (n := 2) (Nat.le_of_ble_eq_true rfl)
  rw [lg_entry_eq]
  generalize (lg_sl ([.ref (mad E (c)), .ref (mad E (d1))]) ++ List.replicate (2 - (lg_sl ([.ref (mad E (c)), .ref (mad E (d1))])).length) Slot.unset).toArray = ls at hl ⊢
  have hl : lv_has ls 2 [(0, .ref (mad E (c))), (1, .ref (mad E (d1)))] := hl
  unfold x3_isToLoad at hT
  refine lv_aload_n hx hb dX3_isToLoad_0 rfl (lv_at hl 1 rfl) ?_
  refine mx_get (v := .int (G d1 4)) (ci := 4) (C := RX4) (T := TX4) (N := 10) X Z hd1.i (hd1.c _) rfl inlX4 4 (by decide) wd_13_7 rfl dX3_isToLoad_1 ?_
  refine lv_if_ne (tgt := 18) hx hb dX3_isToLoad_4 (by decide) (fun h_1 => ?_) (fun h_1 => ?_)
  · replace hT := mx_f hT h_1
    refine lv_iconst (v := (0 : Int32)) hx hb dX3_isToLoad_18 (by decide) ?_
    cases hT
    exact W.zret (v := (0 : Int32)) hx hb hr rfl (fun t ht hW => mx_end Z t ht _) Z.2.2.2 dX3_isToLoad_19
  · replace hT := mx_t hT h_1
    refine lv_aload_n hx hb dX3_isToLoad_7 rfl (lv_at hl 1 rfl) ?_
    refine mx_get (v := .int (G d1 3)) (ci := 4) (C := RX4) (T := TX4) (N := 10) X Z hd1.i (hd1.c _) rfl inlX4 3 (by decide) wd_10_23 rfl dX3_isToLoad_8 ?_
    refine lv_if_ne (tgt := 18) hx hb dX3_isToLoad_11 (by decide) (fun h_2 => ?_) (fun h_2 => ?_)
    · replace hT := mx_f hT h_2
      refine lv_iconst (v := (0 : Int32)) hx hb dX3_isToLoad_18 (by decide) ?_
      cases hT
      exact W.zret (v := (0 : Int32)) hx hb hr rfl (fun t ht hW => mx_end Z t ht _) Z.2.2.2 dX3_isToLoad_19
    · replace hT := mx_t hT h_2
      refine lv_iconst (v := (1 : Int32)) hx hb dX3_isToLoad_14 (by decide) ?_
      refine lv_goto (tgt := 19) hx hb dX3_isToLoad_15 (by decide) ?_
      cases hT
      exact W.zret (v := (1 : Int32)) hx hb hr rfl (fun t ht hW => mx_end Z t ht _) Z.2.2.2 dX3_isToLoad_19
/-! PeatRailway$Train.fullLoad -/
def x4_fullLoad (c : Nat) (G : mM) : Option Int32 :=
  some ((G c 0) * (G c 1))
theorem hd4_fullLoad : yX4_fullLoad.cls = RX4 ∧ yX4_fullLoad.cls ≠ "java/lang/invoke/MethodHandle" ∧ yX4_fullLoad.cls ≠ "java/lang/invoke/VarHandle" ∧ (parseMethodDescriptor yX4_fullLoad.desc).map (fun d => d.parameters.length) = some 0 := by decide +kernel
set_option maxHeartbeats 4000000 in
set_option maxRecDepth 100000 in
theorem c4_fullLoad (l : Launch) (E : mE) (hJ : mJ E) {c : Nat} (hc : mTr E c) (G : mM) (q : Int32) (hT : x4_fullLoad c G = some q) : mMet l E yX4_fullLoad cX4_fullLoad 1 (some .int) 0 0 [.ref (mad E (c))] G (some (.int q)) G := by
  refine Met.ofW (cc := cX4_fullLoad) (maxL := 1) (ret := (some .int)) (by decide) rfl ?_
  intro p e s m args below meth cd s₁ B hml hv
  obtain ⟨rfl, hP, hK, hS⟩ := hv
  have X := mx_entry (own := RX4) B hml hK hJ hS rfl
  have hx := X.1
  have hb := X.2.1
  have hown := X.2.2.2.1
  have hts := X.2.2.2.2.1
  have hr := B.returns
  have hlocks := B.notSynchronized
  have hR : 0 ≤ (headSpec (mWs yX4_fullLoad cX4_fullLoad 1 (some .int)) ({ frames := 0, cells := 0, slots := 0, locals := 0 })).room.frames ∧ 0 ≤ (headSpec (mWs yX4_fullLoad cX4_fullLoad 1 (some .int)) ({ frames := 0, cells := 0, slots := 0, locals := 0 })).room.locals := ⟨Nat.le_refl _, Nat.le_refl _⟩
  have Z : mZ E s.heap s.heap [] G := ⟨hP, va_S.rf⟩
  have hl := lv_entry ([.ref (mad E (c))]) (n := 1) (Nat.le_of_ble_eq_true rfl)
  rw [lg_entry_eq]
  generalize (lg_sl ([.ref (mad E (c))]) ++ List.replicate (1 - (lg_sl ([.ref (mad E (c))])).length) Slot.unset).toArray = ls at hl ⊢
  have hl : lv_has ls 1 [(0, .ref (mad E (c)))] := hl
  unfold x4_fullLoad at hT
  refine lv_aload_n hx hb dX4_fullLoad_0 rfl (lv_at hl 0 rfl) ?_
  refine mx_get (v := .int (G c 0)) (ci := 4) (C := RX4) (T := TX4) (N := 10) X Z hc.i (hc.c _) rfl inlX4 0 (by decide) wd_9_2 rfl dX4_fullLoad_1 ?_
  refine lv_aload_n hx hb dX4_fullLoad_4 rfl (lv_at hl 0 rfl) ?_
  refine mx_get (v := .int (G c 1)) (ci := 4) (C := RX4) (T := TX4) (N := 10) X Z hc.i (hc.c _) rfl inlX4 1 (by decide) wd_9_3 rfl dX4_fullLoad_5 ?_
  refine lv_imul hx hb dX4_fullLoad_8 ?_
  cases hT
  exact W.iret hx hb hr (fun t ht hW => mx_end Z t ht _) Z.2.2.2 dX4_fullLoad_9
/-! PeatRailway$State.placeBeyond -/
def x3_placeBeyond (c : Nat) (d1 : Nat) (G : mM) : Option Int32 :=
  if (G d1 4) = 0 then
    some ((G d1 3) - ((1 : Int32)))
  else
    some ((G d1 3) + ((1 : Int32)))
theorem hd3_placeBeyond : yX3_placeBeyond.cls = RX3 ∧ yX3_placeBeyond.cls ≠ "java/lang/invoke/MethodHandle" ∧ yX3_placeBeyond.cls ≠ "java/lang/invoke/VarHandle" ∧ (parseMethodDescriptor yX3_placeBeyond.desc).map (fun d => d.parameters.length) = some 1 := by decide +kernel
set_option maxHeartbeats 4000000 in
set_option maxRecDepth 100000 in
theorem c3_placeBeyond (l : Launch) (E : mE) (hJ : mJ E) {c : Nat} {d1 : Nat} (hc : mSt E c) (hd1 : mTr E d1) (G : mM) (q : Int32) (hT : x3_placeBeyond c d1 G = some q) : mMet l E yX3_placeBeyond cX3_placeBeyond 2 (some .int) 0 0 [.ref (mad E (c)), .ref (mad E (d1))] G (some (.int q)) G := by
  refine Met.ofW (cc := cX3_placeBeyond) (maxL := 2) (ret := (some .int)) (by decide) rfl ?_
  intro p e s m args below meth cd s₁ B hml hv
  obtain ⟨rfl, hP, hK, hS⟩ := hv
  have X := mx_entry (own := RX3) B hml hK hJ hS rfl
  have hx := X.1
  have hb := X.2.1
  have hown := X.2.2.2.1
  have hts := X.2.2.2.2.1
  have hr := B.returns
  have hlocks := B.notSynchronized
  have hR : 0 ≤ (headSpec (mWs yX3_placeBeyond cX3_placeBeyond 2 (some .int)) ({ frames := 0, cells := 0, slots := 0, locals := 0 })).room.frames ∧ 0 ≤ (headSpec (mWs yX3_placeBeyond cX3_placeBeyond 2 (some .int)) ({ frames := 0, cells := 0, slots := 0, locals := 0 })).room.locals := ⟨Nat.le_refl _, Nat.le_refl _⟩
  have Z : mZ E s.heap s.heap [] G := ⟨hP, va_S.rf⟩
  have hl := lv_entry ([.ref (mad E (c)), .ref (mad E (d1))]) (n := 2) (Nat.le_of_ble_eq_true rfl)
  rw [lg_entry_eq]
  generalize (lg_sl ([.ref (mad E (c)), .ref (mad E (d1))]) ++ List.replicate (2 - (lg_sl ([.ref (mad E (c)), .ref (mad E (d1))])).length) Slot.unset).toArray = ls at hl ⊢
  have hl : lv_has ls 2 [(0, .ref (mad E (c))), (1, .ref (mad E (d1)))] := hl
  unfold x3_placeBeyond at hT
  refine lv_aload_n hx hb dX3_placeBeyond_0 rfl (lv_at hl 1 rfl) ?_
  refine mx_get (v := .int (G d1 4)) (ci := 4) (C := RX4) (T := TX4) (N := 10) X Z hd1.i (hd1.c _) rfl inlX4 4 (by decide) wd_13_7 rfl dX3_placeBeyond_1 ?_
  refine lv_if_eq (tgt := 16) hx hb dX3_placeBeyond_4 (by decide) (fun h_1 => ?_) (fun h_1 => ?_)
  · replace hT := mx_t hT h_1
    refine lv_aload_n hx hb dX3_placeBeyond_16 rfl (lv_at hl 1 rfl) ?_
    refine mx_get (v := .int (G d1 3)) (ci := 4) (C := RX4) (T := TX4) (N := 10) X Z hd1.i (hd1.c _) rfl inlX4 3 (by decide) wd_10_23 rfl dX3_placeBeyond_17 ?_
    refine lv_iconst (v := (1 : Int32)) hx hb dX3_placeBeyond_20 (by decide) ?_
    refine lv_isub hx hb dX3_placeBeyond_21 ?_
    cases hT
    exact W.iret hx hb hr (fun t ht hW => mx_end Z t ht _) Z.2.2.2 dX3_placeBeyond_22
  · replace hT := mx_f hT h_1
    refine lv_aload_n hx hb dX3_placeBeyond_7 rfl (lv_at hl 1 rfl) ?_
    refine mx_get (v := .int (G d1 3)) (ci := 4) (C := RX4) (T := TX4) (N := 10) X Z hd1.i (hd1.c _) rfl inlX4 3 (by decide) wd_10_23 rfl dX3_placeBeyond_8 ?_
    refine lv_iconst (v := (1 : Int32)) hx hb dX3_placeBeyond_11 (by decide) ?_
    refine lv_iadd hx hb dX3_placeBeyond_12 ?_
    refine lv_goto (tgt := 22) hx hb dX3_placeBeyond_13 (by decide) ?_
    cases hT
    exact W.iret hx hb hr (fun t ht hW => mx_end Z t ht _) Z.2.2.2 dX3_placeBeyond_22
/-! PeatRailway$State.trainsIn -/
def x3_trainsIn_L4 (y0 : Nat) (y1 : Int32) : Nat → Int32 → Int32 → mM → Option (Int32)
  | 0, _, _, _ => none
  | n + 1, w2, w3, G =>
    if ((4 : Int32)) ≤ w3 then
      some (w2)
    else
      (x3_trainAt y0 w3 G).bind fun q_2 =>
      mOpt q_2 (
        mNm (w3 + (1 : Int32)) fun v_5 =>
        x3_trainsIn_L4 y0 y1 n w2 v_5 G) fun o_3 =>
        if (G o_3 3) = y1 then
          mNm (w2 + (1 : Int32)) fun v_8 =>
          mNm (w3 + (1 : Int32)) fun v_9 =>
          x3_trainsIn_L4 y0 y1 n v_8 v_9 G
        else
          mNm (w3 + (1 : Int32)) fun v_7 =>
          x3_trainsIn_L4 y0 y1 n w2 v_7 G
def x3_trainsIn (c : Nat) (x1 : Int32) (G : mM) : Option Int32 :=
  (x3_trainsIn_L4 c x1 mFu ((0 : Int32)) ((0 : Int32)) G).bind fun q_10 =>
  some (q_10)
theorem hd3_trainsIn : yX3_trainsIn.cls = RX3 ∧ yX3_trainsIn.cls ≠ "java/lang/invoke/MethodHandle" ∧ yX3_trainsIn.cls ≠ "java/lang/invoke/VarHandle" ∧ (parseMethodDescriptor yX3_trainsIn.desc).map (fun d => d.parameters.length) = some 1 := by decide +kernel
set_option maxHeartbeats 4000000 in
set_option maxRecDepth 100000 in
theorem k3_trainsIn_4 {p : Program} {l : Launch} {e : Env} {R : Room} {s : State} {m : MethodId} {args : Array Value} {below : List Frame} {meth : Method} {cd : Code} {Q : State → Prop} {E : mE} (X : mX p s m args cd cX3_trainsIn 5 RX3 E) (hR : 1 ≤ R.frames ∧ 21 ≤ R.locals) (hJ : mJ E) {y0 : Nat} (hy0 : mSt E y0) (y1 : Int32) : ∀ (n : Nat) (w2 : Int32) (w3 : Int32) (G : mM) (H : Heap) (locs : List Loc) (ls : Array Slot) (r : Int32), x3_trainsIn_L4 y0 y1 n w2 w3 G = some r → mZ E s.heap H locs G → lv_has ls 5 [(0, .ref (mad E (y0))), (1, .int (y1)), (2, .int (w2)), (3, .int (w3))] → (∀ (H : Heap) (locs : List Loc) (ls : Array Slot), mZ E s.heap H locs G → lv_has ls 5 [(0, .ref (mad E (y0))), (1, .int (y1)), (2, .int (r))] → W p l e R s m args below meth cd H locs 0 0 Q (F0 m 39 ls [])) → W p l e R s m args below meth cd H locs 0 0 Q (F0 m 4 ls []) := by
  have hx := X.1
  have hb := X.2.1
  have hown := X.2.2.2.1
  have hts := X.2.2.2.2.1
  intro n
  induction n with
  | zero =>
    intro w2 w3 G H locs ls r hT
    rw [x3_trainsIn_L4] at hT
    cases hT
  | succ n ih =>
    intro w2 w3 G H locs ls r hT Z hl k0
    rw [x3_trainsIn_L4] at hT
    refine lv_iload_n hx hb dX3_trainsIn_4 rfl (lv_at hl 3 rfl) ?_
    refine lv_iconst (v := (4 : Int32)) hx hb dX3_trainsIn_5 (by decide) ?_
    refine lv_icmp_ge (tgt := 39) hx hb dX3_trainsIn_6 (by decide) (fun h_1 => ?_) (fun h_1 => ?_)
    · replace hT := mx_t hT h_1
      cases hT
      exact k0 _ _ _ Z (lv_sub hl [0, 1, 2] rfl)
    · replace hT := mx_f hT h_1
      refine lv_aload_n hx hb dX3_trainsIn_9 rfl (lv_at hl 0 rfl) ?_
      refine lv_iload_n hx hb dX3_trainsIn_10 rfl (lv_at hl 3 rfl) ?_
      obtain ⟨q_2, h_q_2, hT⟩ := mx_bind hT
      refine mx_callV (As := [.int (w3)]) (rest := []) (st1 := [va_re (mad E) q_2]) (C := RX3) (T := TX3) (N := 11) (ci := 3) X Z hl.1 (c3_trainAt l E hJ hy0 _ _ _ h_q_2) wd_11_0 wd_11_1 wd_11_2 wd_1_16 wd_11_3 hd3_trainAt ⟨Nat.le_trans (by decide) hR.1, Nat.le_trans (by decide) hR.2⟩ ⟨Nat.zero_le _, Nat.zero_le _⟩ hy0.i (hy0.c _) rfl (Nat.le_of_ble_eq_true rfl) rfl rfl dX3_trainsIn_11 (fun H locs Z => ?_)
      have hk_4 := c3_trainAt_k E hy0 _ _ _ h_q_2
      rcases q_2 with _ | o_3
      · replace hT := mx_on hT
        refine mx_tops (s2 := [.null]) rfl ?_
        refine lv_astoreN (lv' := [(4, .null), (0, .ref (mad E (y0))), (1, .int (y1)), (2, .int (w2)), (3, .int (w3))]) hx hb dX3_trainsIn_14 hl (by decide) rfl (fun ls hl => ?_)
        refine lv_aloadN hx hb dX3_trainsIn_16 (lv_at hl 0 rfl) ?_
        refine lv_ifnullN (tgt := 33) hx hb dX3_trainsIn_18 (by decide) ?_
        obtain ⟨v_5, e_v_5, hT⟩ := mx_nm hT
        refine lv_iinc (v := v_5) (lv' := [(3, .int (v_5)), (4, .null), (0, .ref (mad E (y0))), (1, .int (y1)), (2, .int (w2))]) hx hb dX3_trainsIn_33 hl (k := 4) rfl (by rw [← e_v_5]; rfl) (by decide) rfl (fun ls hl => ?_)
        refine lv_goto (tgt := 4) hx hb dX3_trainsIn_36 (by decide) ?_
        exact ih _ _ _ _ _ _ _ hT Z (lv_sub hl [2, 3, 4, 0] rfl) k0
      · replace hT := mx_os hT
        refine mx_tops (s2 := [.ref (mad E o_3)]) rfl ?_
        refine lv_astore (lv' := [(4, .ref (mad E (o_3))), (0, .ref (mad E (y0))), (1, .int (y1)), (2, .int (w2)), (3, .int (w3))]) hx hb dX3_trainsIn_14 hl (by decide) rfl (fun ls hl => ?_)
        refine lv_aload hx hb dX3_trainsIn_16 (lv_at hl 0 rfl) ?_
        refine lv_ifnull hx hb dX3_trainsIn_18 ?_
        refine lv_aload hx hb dX3_trainsIn_21 (lv_at hl 0 rfl) ?_
        refine mx_get (v := .int (G o_3 3)) (ci := 4) (C := RX4) (T := TX4) (N := 10) X Z ((hk_4 o_3 rfl)).i (((hk_4 o_3 rfl)).c _) rfl inlX4 3 (by decide) wd_10_23 rfl dX3_trainsIn_23 ?_
        refine lv_iload_n hx hb dX3_trainsIn_26 rfl (lv_at hl 2 rfl) ?_
        refine lv_icmp_ne (tgt := 33) hx hb dX3_trainsIn_27 (by decide) (fun h_6 => ?_) (fun h_6 => ?_)
        · replace hT := mx_f hT h_6
          obtain ⟨v_7, e_v_7, hT⟩ := mx_nm hT
          refine lv_iinc (v := v_7) (lv' := [(3, .int (v_7)), (4, .ref (mad E (o_3))), (0, .ref (mad E (y0))), (1, .int (y1)), (2, .int (w2))]) hx hb dX3_trainsIn_33 hl (k := 4) rfl (by rw [← e_v_7]; rfl) (by decide) rfl (fun ls hl => ?_)
          refine lv_goto (tgt := 4) hx hb dX3_trainsIn_36 (by decide) ?_
          exact ih _ _ _ _ _ _ _ hT Z (lv_sub hl [2, 3, 4, 0] rfl) k0
        · replace hT := mx_t hT h_6
          obtain ⟨v_8, e_v_8, hT⟩ := mx_nm hT
          refine lv_iinc (v := v_8) (lv' := [(2, .int (v_8)), (4, .ref (mad E (o_3))), (0, .ref (mad E (y0))), (1, .int (y1)), (3, .int (w3))]) hx hb dX3_trainsIn_30 hl (k := 3) rfl (by rw [← e_v_8]; rfl) (by decide) rfl (fun ls hl => ?_)
          obtain ⟨v_9, e_v_9, hT⟩ := mx_nm hT
          refine lv_iinc (v := v_9) (lv' := [(3, .int (v_9)), (2, .int (v_8)), (4, .ref (mad E (o_3))), (0, .ref (mad E (y0))), (1, .int (y1))]) hx hb dX3_trainsIn_33 hl (k := 4) rfl (by rw [← e_v_9]; rfl) (by decide) rfl (fun ls hl => ?_)
          refine lv_goto (tgt := 4) hx hb dX3_trainsIn_36 (by decide) ?_
          exact ih _ _ _ _ _ _ _ hT Z (lv_sub hl [3, 4, 1, 0] rfl) k0
set_option maxHeartbeats 4000000 in
set_option maxRecDepth 100000 in
theorem c3_trainsIn (l : Launch) (E : mE) (hJ : mJ E) {c : Nat} (hc : mSt E c) (x1 : Int32) (G : mM) (q : Int32) (hT : x3_trainsIn c x1 G = some q) : mMet l E yX3_trainsIn cX3_trainsIn 5 (some .int) 1 21 [.ref (mad E (c)), .int (x1)] G (some (.int q)) G := by
  refine Met.ofW (cc := cX3_trainsIn) (maxL := 5) (ret := (some .int)) (by decide) rfl ?_
  intro p e s m args below meth cd s₁ B hml hv
  obtain ⟨rfl, hP, hK, hS⟩ := hv
  have X := mx_entry (own := RX3) B hml hK hJ hS rfl
  have hx := X.1
  have hb := X.2.1
  have hown := X.2.2.2.1
  have hts := X.2.2.2.2.1
  have hr := B.returns
  have hlocks := B.notSynchronized
  have hR : 1 ≤ (headSpec (mWs yX3_trainsIn cX3_trainsIn 5 (some .int)) ({ frames := 1, cells := 0, slots := 0, locals := 21 })).room.frames ∧ 21 ≤ (headSpec (mWs yX3_trainsIn cX3_trainsIn 5 (some .int)) ({ frames := 1, cells := 0, slots := 0, locals := 21 })).room.locals := ⟨Nat.le_refl _, Nat.le_refl _⟩
  have Z : mZ E s.heap s.heap [] G := ⟨hP, va_S.rf⟩
  have hl := lv_entry ([.ref (mad E (c)), .int (x1)]) (n := 5) (Nat.le_of_ble_eq_true rfl)
  rw [lg_entry_eq]
  generalize (lg_sl ([.ref (mad E (c)), .int (x1)]) ++ List.replicate (5 - (lg_sl ([.ref (mad E (c)), .int (x1)])).length) Slot.unset).toArray = ls at hl ⊢
  have hl : lv_has ls 5 [(0, .ref (mad E (c))), (1, .int (x1))] := hl
  unfold x3_trainsIn at hT
  refine lv_iconst (v := (0 : Int32)) hx hb dX3_trainsIn_0 (by decide) ?_
  refine lv_istore_n (lv' := [(2, .int ((0 : Int32))), (0, .ref (mad E (c))), (1, .int (x1))]) hx hb dX3_trainsIn_1 rfl hl (by decide) rfl (fun ls hl => ?_)
  refine lv_iconst (v := (0 : Int32)) hx hb dX3_trainsIn_2 (by decide) ?_
  refine lv_istore_n (lv' := [(3, .int ((0 : Int32))), (2, .int ((0 : Int32))), (0, .ref (mad E (c))), (1, .int (x1))]) hx hb dX3_trainsIn_3 rfl hl (by decide) rfl (fun ls hl => ?_)
  obtain ⟨q_10, h_q_10, hT⟩ := mx_bind hT
  refine k3_trainsIn_4 X hR hJ hc _ _ _ _ _ _ _ _ _ h_q_10 Z (lv_sub (l' := [(0, .ref (mad E (c))), (1, .int (x1)), (2, .int ((0 : Int32))), (3, .int ((0 : Int32)))]) hl [2, 3, 1, 0] rfl) (fun H locs ls Z hl => ?_)
  · refine lv_iload_n hx hb dX3_trainsIn_39 rfl (lv_at hl 2 rfl) ?_
    cases hT
    exact W.iret hx hb hr (fun t ht hW => mx_end Z t ht _) Z.2.2.2 dX3_trainsIn_40
/-! PeatRailway$State.isBetween -/
def x3_isBetween (x0 : Int32) (x1 : Int32) (x2 : Int32) (G : mM) : Option Int32 :=
  if x1 ≤ x0 then
    if x1 ≤ x2 then
      some ((0 : Int32))
    else
      if x0 ≤ x1 then
        some ((0 : Int32))
      else
        some ((1 : Int32))
  else
    if x1 < x2 then
      some ((1 : Int32))
    else
      if x1 ≤ x2 then
        some ((0 : Int32))
      else
        if x0 ≤ x1 then
          some ((0 : Int32))
        else
          some ((1 : Int32))
theorem hd3_isBetween : yX3_isBetween.cls ≠ "java/lang/invoke/MethodHandle" ∧ yX3_isBetween.cls ≠ "java/lang/invoke/VarHandle" ∧ (parseMethodDescriptor yX3_isBetween.desc).map (fun d => d.parameters.length) = some 3 := by decide +kernel
set_option maxHeartbeats 4000000 in
set_option maxRecDepth 100000 in
theorem c3_isBetween (l : Launch) (E : mE) (hJ : mJ E) (x0 : Int32) (x1 : Int32) (x2 : Int32) (G : mM) (q : Int32) (hT : x3_isBetween x0 x1 x2 G = some q) : mMet l E yX3_isBetween cX3_isBetween 3 (some .boolean) 0 0 [.int (x0), .int (x1), .int (x2)] G (some (.int q)) G := by
  refine Met.ofW (cc := cX3_isBetween) (maxL := 3) (ret := (some .boolean)) (by decide) rfl ?_
  intro p e s m args below meth cd s₁ B hml hv
  obtain ⟨rfl, hP, hK, hS⟩ := hv
  have X := mx_entry (own := RX3) B hml hK hJ hS rfl
  have hx := X.1
  have hb := X.2.1
  have hown := X.2.2.2.1
  have hts := X.2.2.2.2.1
  have hr := B.returns
  have hlocks := B.notSynchronized
  have hR : 0 ≤ (headSpec (mWs yX3_isBetween cX3_isBetween 3 (some .boolean)) ({ frames := 0, cells := 0, slots := 0, locals := 0 })).room.frames ∧ 0 ≤ (headSpec (mWs yX3_isBetween cX3_isBetween 3 (some .boolean)) ({ frames := 0, cells := 0, slots := 0, locals := 0 })).room.locals := ⟨Nat.le_refl _, Nat.le_refl _⟩
  have Z : mZ E s.heap s.heap [] G := ⟨hP, va_S.rf⟩
  have hl := lv_entry ([.int (x0), .int (x1), .int (x2)]) (n := 3) (Nat.le_of_ble_eq_true rfl)
  rw [lg_entry_eq]
  generalize (lg_sl ([.int (x0), .int (x1), .int (x2)]) ++ List.replicate (3 - (lg_sl ([.int (x0), .int (x1), .int (x2)])).length) Slot.unset).toArray = ls at hl ⊢
  have hl : lv_has ls 3 [(0, .int (x0)), (1, .int (x1)), (2, .int (x2))] := hl
  unfold x3_isBetween at hT
  refine lv_iload_n hx hb dX3_isBetween_0 rfl (lv_at hl 0 rfl) ?_
  refine lv_iload_n hx hb dX3_isBetween_1 rfl (lv_at hl 1 rfl) ?_
  refine lv_icmp_ge (tgt := 10) hx hb dX3_isBetween_2 (by decide) (fun h_1 => ?_) (fun h_1 => ?_)
  · replace hT := mx_t hT h_1
    refine lv_iload_n hx hb dX3_isBetween_10 rfl (lv_at hl 2 rfl) ?_
    refine lv_iload_n hx hb dX3_isBetween_11 rfl (lv_at hl 1 rfl) ?_
    refine lv_icmp_ge (tgt := 24) hx hb dX3_isBetween_12 (by decide) (fun h_2 => ?_) (fun h_2 => ?_)
    · replace hT := mx_t hT h_2
      refine lv_iconst (v := (0 : Int32)) hx hb dX3_isBetween_24 (by decide) ?_
      cases hT
      exact W.zret (v := (0 : Int32)) hx hb hr rfl (fun t ht hW => mx_end Z t ht _) Z.2.2.2 dX3_isBetween_25
    · replace hT := mx_f hT h_2
      refine lv_iload_n hx hb dX3_isBetween_15 rfl (lv_at hl 1 rfl) ?_
      refine lv_iload_n hx hb dX3_isBetween_16 rfl (lv_at hl 0 rfl) ?_
      refine lv_icmp_ge (tgt := 24) hx hb dX3_isBetween_17 (by decide) (fun h_3 => ?_) (fun h_3 => ?_)
      · replace hT := mx_t hT h_3
        refine lv_iconst (v := (0 : Int32)) hx hb dX3_isBetween_24 (by decide) ?_
        cases hT
        exact W.zret (v := (0 : Int32)) hx hb hr rfl (fun t ht hW => mx_end Z t ht _) Z.2.2.2 dX3_isBetween_25
      · replace hT := mx_f hT h_3
        refine lv_iconst (v := (1 : Int32)) hx hb dX3_isBetween_20 (by decide) ?_
        refine lv_goto (tgt := 25) hx hb dX3_isBetween_21 (by decide) ?_
        cases hT
        exact W.zret (v := (1 : Int32)) hx hb hr rfl (fun t ht hW => mx_end Z t ht _) Z.2.2.2 dX3_isBetween_25
  · replace hT := mx_f hT h_1
    refine lv_iload_n hx hb dX3_isBetween_5 rfl (lv_at hl 1 rfl) ?_
    refine lv_iload_n hx hb dX3_isBetween_6 rfl (lv_at hl 2 rfl) ?_
    refine lv_icmp_lt (tgt := 20) hx hb dX3_isBetween_7 (by decide) (fun h_4 => ?_) (fun h_4 => ?_)
    · replace hT := mx_t hT h_4
      refine lv_iconst (v := (1 : Int32)) hx hb dX3_isBetween_20 (by decide) ?_
      refine lv_goto (tgt := 25) hx hb dX3_isBetween_21 (by decide) ?_
      cases hT
      exact W.zret (v := (1 : Int32)) hx hb hr rfl (fun t ht hW => mx_end Z t ht _) Z.2.2.2 dX3_isBetween_25
    · replace hT := mx_f hT h_4
      refine lv_iload_n hx hb dX3_isBetween_10 rfl (lv_at hl 2 rfl) ?_
      refine lv_iload_n hx hb dX3_isBetween_11 rfl (lv_at hl 1 rfl) ?_
      refine lv_icmp_ge (tgt := 24) hx hb dX3_isBetween_12 (by decide) (fun h_5 => ?_) (fun h_5 => ?_)
      · replace hT := mx_t hT h_5
        refine lv_iconst (v := (0 : Int32)) hx hb dX3_isBetween_24 (by decide) ?_
        cases hT
        exact W.zret (v := (0 : Int32)) hx hb hr rfl (fun t ht hW => mx_end Z t ht _) Z.2.2.2 dX3_isBetween_25
      · replace hT := mx_f hT h_5
        refine lv_iload_n hx hb dX3_isBetween_15 rfl (lv_at hl 1 rfl) ?_
        refine lv_iload_n hx hb dX3_isBetween_16 rfl (lv_at hl 0 rfl) ?_
        refine lv_icmp_ge (tgt := 24) hx hb dX3_isBetween_17 (by decide) (fun h_6 => ?_) (fun h_6 => ?_)
        · replace hT := mx_t hT h_6
          refine lv_iconst (v := (0 : Int32)) hx hb dX3_isBetween_24 (by decide) ?_
          cases hT
          exact W.zret (v := (0 : Int32)) hx hb hr rfl (fun t ht hW => mx_end Z t ht _) Z.2.2.2 dX3_isBetween_25
        · replace hT := mx_f hT h_6
          refine lv_iconst (v := (1 : Int32)) hx hb dX3_isBetween_20 (by decide) ?_
          refine lv_goto (tgt := 25) hx hb dX3_isBetween_21 (by decide) ?_
          cases hT
          exact W.zret (v := (1 : Int32)) hx hb hr rfl (fun t ht hW => mx_end Z t ht _) Z.2.2.2 dX3_isBetween_25
/-! PeatRailway$State.reasonAhead -/
def x3_reasonAhead_L5 (y0 : Nat) (y1 : Nat) (y2 : Int32) : Nat → Int32 → Int32 → mM → Option (Nat × Int32)
  | 0, _, _, _ => none
  | n + 1, w3, w4, G =>
    if ((4 : Int32)) ≤ w4 then
      some (0, w3)
    else
      (x3_trainAt y0 w4 G).bind fun q_2 =>
      mOpt q_2 (
        mNm (w4 + (1 : Int32)) fun v_5 =>
        x3_reasonAhead_L5 y0 y1 y2 n w3 v_5 G) fun o_3 =>
        (x3_isBetween (G y1 3) (G o_3 3) y2 G).bind fun q_6 =>
        if q_6 = 0 then
          if (G o_3 3) = y2 then
            mNm (w3 + (1 : Int32)) fun v_10 =>
            mNm (w4 + (1 : Int32)) fun v_11 =>
            x3_reasonAhead_L5 y0 y1 y2 n v_10 v_11 G
          else
            mNm (w4 + (1 : Int32)) fun v_9 =>
            x3_reasonAhead_L5 y0 y1 y2 n w3 v_9 G
        else
          if (G o_3 4) = (G y1 4) then
            mNm (w3 + (1 : Int32)) fun v_13 =>
            mNm (w4 + (1 : Int32)) fun v_14 =>
            x3_reasonAhead_L5 y0 y1 y2 n v_13 v_14 G
          else
            some (1, 0)
def x3_reasonAhead (c : Nat) (d1 : Nat) (x2 : Int32) (G : mM) : Option Int32 :=
  (x3_reasonAhead_L5 c d1 x2 mFu ((0 : Int32)) ((0 : Int32)) G).bind fun q_15 =>
  if q_15.1 = 0 then
    (x3_segmentAt c x2 G).bind fun q_16 =>
    mOpt q_16 (
      some ((0 : Int32))) fun o_17 =>
      if q_15.2 < (G o_17 1) then
        some ((0 : Int32))
      else
        some ((5 : Int32))
  else
    some ((4 : Int32))
theorem hd3_reasonAhead : yX3_reasonAhead.cls = RX3 ∧ yX3_reasonAhead.cls ≠ "java/lang/invoke/MethodHandle" ∧ yX3_reasonAhead.cls ≠ "java/lang/invoke/VarHandle" ∧ (parseMethodDescriptor yX3_reasonAhead.desc).map (fun d => d.parameters.length) = some 2 := by decide +kernel
set_option maxHeartbeats 4000000 in
set_option maxRecDepth 100000 in
theorem k3_reasonAhead_5 {p : Program} {l : Launch} {e : Env} {R : Room} {s : State} {m : MethodId} {args : Array Value} {below : List Frame} {meth : Method} {cd : Code} {Q : State → Prop} {E : mE} (X : mX p s m args cd cX3_reasonAhead 6 RX3 E) (hR : 1 ≤ R.frames ∧ 22 ≤ R.locals) (hJ : mJ E) {y0 : Nat} {y1 : Nat} (hy0 : mSt E y0) (hy1 : mTr E y1) (y2 : Int32) : ∀ (n : Nat) (w3 : Int32) (w4 : Int32) (G : mM) (H : Heap) (locs : List Loc) (ls : Array Slot) (r : Nat × Int32), x3_reasonAhead_L5 y0 y1 y2 n w3 w4 G = some r → mZ E s.heap H locs G → lv_has ls 6 [(0, .ref (mad E (y0))), (1, .ref (mad E (y1))), (2, .int (y2)), (3, .int (w3)), (4, .int (w4))] → (r.1 = 0 → ∀ (H : Heap) (locs : List Loc) (ls : Array Slot), mZ E s.heap H locs G → lv_has ls 6 [(0, .ref (mad E (y0))), (1, .ref (mad E (y1))), (2, .int (y2)), (3, .int (r.2))] → W p l e R s m args below meth cd H locs 0 0 Q (F0 m 81 ls [])) → (r.1 = 1 → ∀ (H : Heap) (locs : List Loc) (ls : Array Slot), mZ E s.heap H locs G → lv_has ls 6 [(0, .ref (mad E (y0))), (1, .ref (mad E (y1))), (2, .int (y2))] → W p l e R s m args below meth cd H locs 0 0 Q (F0 m 55 ls [])) → W p l e R s m args below meth cd H locs 0 0 Q (F0 m 5 ls []) := by
  have hx := X.1
  have hb := X.2.1
  have hown := X.2.2.2.1
  have hts := X.2.2.2.2.1
  intro n
  induction n with
  | zero =>
    intro w3 w4 G H locs ls r hT
    rw [x3_reasonAhead_L5] at hT
    cases hT
  | succ n ih =>
    intro w3 w4 G H locs ls r hT Z hl k0 k1
    rw [x3_reasonAhead_L5] at hT
    refine lv_iload hx hb dX3_reasonAhead_5 (lv_at hl 4 rfl) ?_
    refine lv_iconst (v := (4 : Int32)) hx hb dX3_reasonAhead_7 (by decide) ?_
    refine lv_icmp_ge (tgt := 81) hx hb dX3_reasonAhead_8 (by decide) (fun h_1 => ?_) (fun h_1 => ?_)
    · replace hT := mx_t hT h_1
      cases hT
      exact k0 rfl _ _ _ Z (lv_sub hl [0, 1, 2, 3] rfl)
    · replace hT := mx_f hT h_1
      refine lv_aload_n hx hb dX3_reasonAhead_11 rfl (lv_at hl 0 rfl) ?_
      refine lv_iload hx hb dX3_reasonAhead_12 (lv_at hl 4 rfl) ?_
      obtain ⟨q_2, h_q_2, hT⟩ := mx_bind hT
      refine mx_callV (As := [.int (w4)]) (rest := []) (st1 := [va_re (mad E) q_2]) (C := RX3) (T := TX3) (N := 11) (ci := 3) X Z hl.1 (c3_trainAt l E hJ hy0 _ _ _ h_q_2) wd_11_0 wd_11_1 wd_11_2 wd_1_16 wd_11_3 hd3_trainAt ⟨Nat.le_trans (by decide) hR.1, Nat.le_trans (by decide) hR.2⟩ ⟨Nat.zero_le _, Nat.zero_le _⟩ hy0.i (hy0.c _) rfl (Nat.le_of_ble_eq_true rfl) rfl rfl dX3_reasonAhead_14 (fun H locs Z => ?_)
      have hk_4 := c3_trainAt_k E hy0 _ _ _ h_q_2
      rcases q_2 with _ | o_3
      · replace hT := mx_on hT
        refine mx_tops (s2 := [.null]) rfl ?_
        refine lv_astoreN (lv' := [(5, .null), (0, .ref (mad E (y0))), (1, .ref (mad E (y1))), (2, .int (y2)), (3, .int (w3)), (4, .int (w4))]) hx hb dX3_reasonAhead_17 hl (by decide) rfl (fun ls hl => ?_)
        refine lv_aloadN hx hb dX3_reasonAhead_19 (lv_at hl 0 rfl) ?_
        refine lv_ifnonnullN hx hb dX3_reasonAhead_21 ?_
        refine lv_goto (tgt := 75) hx hb dX3_reasonAhead_24 (by decide) ?_
        obtain ⟨v_5, e_v_5, hT⟩ := mx_nm hT
        refine lv_iinc (v := v_5) (lv' := [(4, .int (v_5)), (5, .null), (0, .ref (mad E (y0))), (1, .ref (mad E (y1))), (2, .int (y2)), (3, .int (w3))]) hx hb dX3_reasonAhead_75 hl (k := 5) rfl (by rw [← e_v_5]; rfl) (by decide) rfl (fun ls hl => ?_)
        refine lv_goto (tgt := 5) hx hb dX3_reasonAhead_78 (by decide) ?_
        exact ih _ _ _ _ _ _ _ hT Z (lv_sub hl [2, 3, 4, 5, 0] rfl) k0 k1
      · replace hT := mx_os hT
        refine mx_tops (s2 := [.ref (mad E o_3)]) rfl ?_
        refine lv_astore (lv' := [(5, .ref (mad E (o_3))), (0, .ref (mad E (y0))), (1, .ref (mad E (y1))), (2, .int (y2)), (3, .int (w3)), (4, .int (w4))]) hx hb dX3_reasonAhead_17 hl (by decide) rfl (fun ls hl => ?_)
        refine lv_aload hx hb dX3_reasonAhead_19 (lv_at hl 0 rfl) ?_
        refine lv_ifnonnull (tgt := 27) hx hb dX3_reasonAhead_21 (by decide) ?_
        refine lv_aload_n hx hb dX3_reasonAhead_27 rfl (lv_at hl 2 rfl) ?_
        refine mx_get (v := .int (G y1 3)) (ci := 4) (C := RX4) (T := TX4) (N := 10) X Z hy1.i (hy1.c _) rfl inlX4 3 (by decide) wd_10_23 rfl dX3_reasonAhead_28 ?_
        refine lv_aload hx hb dX3_reasonAhead_31 (lv_at hl 0 rfl) ?_
        refine mx_get (v := .int (G o_3 3)) (ci := 4) (C := RX4) (T := TX4) (N := 10) X Z ((hk_4 o_3 rfl)).i (((hk_4 o_3 rfl)).c _) rfl inlX4 3 (by decide) wd_10_23 rfl dX3_reasonAhead_33 ?_
        refine lv_iload_n hx hb dX3_reasonAhead_36 rfl (lv_at hl 3 rfl) ?_
        obtain ⟨q_6, h_q_6, hT⟩ := mx_bind hT
        refine mx_callS (As := [.int (G y1 3), .int (G o_3 3), .int (y2)]) (rest := []) (st1 := [.int (q_6)]) X Z hl.1 (c3_isBetween l E hJ _ _ _ _ _ h_q_6) wd_14_5 wd_14_6 wd_1_16 wd_14_7 hd3_isBetween ⟨Nat.le_trans (by decide) hR.1, Nat.le_trans (by decide) hR.2⟩ ⟨Nat.zero_le _, Nat.zero_le _⟩ (Nat.le_of_ble_eq_true rfl) rfl rfl dX3_reasonAhead_37 (fun H locs Z => ?_)
        refine lv_if_eq (tgt := 63) hx hb dX3_reasonAhead_40 (by decide) (fun h_7 => ?_) (fun h_7 => ?_)
        · replace hT := mx_t hT h_7
          refine lv_aload hx hb dX3_reasonAhead_63 (lv_at hl 0 rfl) ?_
          refine mx_get (v := .int (G o_3 3)) (ci := 4) (C := RX4) (T := TX4) (N := 10) X Z ((hk_4 o_3 rfl)).i (((hk_4 o_3 rfl)).c _) rfl inlX4 3 (by decide) wd_10_23 rfl dX3_reasonAhead_65 ?_
          refine lv_iload_n hx hb dX3_reasonAhead_68 rfl (lv_at hl 3 rfl) ?_
          refine lv_icmp_ne (tgt := 75) hx hb dX3_reasonAhead_69 (by decide) (fun h_8 => ?_) (fun h_8 => ?_)
          · replace hT := mx_f hT h_8
            obtain ⟨v_9, e_v_9, hT⟩ := mx_nm hT
            refine lv_iinc (v := v_9) (lv' := [(4, .int (v_9)), (5, .ref (mad E (o_3))), (0, .ref (mad E (y0))), (1, .ref (mad E (y1))), (2, .int (y2)), (3, .int (w3))]) hx hb dX3_reasonAhead_75 hl (k := 5) rfl (by rw [← e_v_9]; rfl) (by decide) rfl (fun ls hl => ?_)
            refine lv_goto (tgt := 5) hx hb dX3_reasonAhead_78 (by decide) ?_
            exact ih _ _ _ _ _ _ _ hT Z (lv_sub hl [2, 3, 4, 5, 0] rfl) k0 k1
          · replace hT := mx_t hT h_8
            obtain ⟨v_10, e_v_10, hT⟩ := mx_nm hT
            refine lv_iinc (v := v_10) (lv' := [(3, .int (v_10)), (5, .ref (mad E (o_3))), (0, .ref (mad E (y0))), (1, .ref (mad E (y1))), (2, .int (y2)), (4, .int (w4))]) hx hb dX3_reasonAhead_72 hl (k := 4) rfl (by rw [← e_v_10]; rfl) (by decide) rfl (fun ls hl => ?_)
            obtain ⟨v_11, e_v_11, hT⟩ := mx_nm hT
            refine lv_iinc (v := v_11) (lv' := [(4, .int (v_11)), (3, .int (v_10)), (5, .ref (mad E (o_3))), (0, .ref (mad E (y0))), (1, .ref (mad E (y1))), (2, .int (y2))]) hx hb dX3_reasonAhead_75 hl (k := 5) rfl (by rw [← e_v_11]; rfl) (by decide) rfl (fun ls hl => ?_)
            refine lv_goto (tgt := 5) hx hb dX3_reasonAhead_78 (by decide) ?_
            exact ih _ _ _ _ _ _ _ hT Z (lv_sub hl [3, 4, 5, 1, 0] rfl) k0 k1
        · replace hT := mx_f hT h_7
          refine lv_aload hx hb dX3_reasonAhead_43 (lv_at hl 0 rfl) ?_
          refine mx_get (v := .int (G o_3 4)) (ci := 4) (C := RX4) (T := TX4) (N := 10) X Z ((hk_4 o_3 rfl)).i (((hk_4 o_3 rfl)).c _) rfl inlX4 4 (by decide) wd_13_7 rfl dX3_reasonAhead_45 ?_
          refine lv_aload_n hx hb dX3_reasonAhead_48 rfl (lv_at hl 2 rfl) ?_
          refine mx_get (v := .int (G y1 4)) (ci := 4) (C := RX4) (T := TX4) (N := 10) X Z hy1.i (hy1.c _) rfl inlX4 4 (by decide) wd_13_7 rfl dX3_reasonAhead_49 ?_
          refine lv_icmp_eq (tgt := 57) hx hb dX3_reasonAhead_52 (by decide) (fun h_12 => ?_) (fun h_12 => ?_)
          · replace hT := mx_t hT h_12
            obtain ⟨v_13, e_v_13, hT⟩ := mx_nm hT
            refine lv_iinc (v := v_13) (lv' := [(3, .int (v_13)), (5, .ref (mad E (o_3))), (0, .ref (mad E (y0))), (1, .ref (mad E (y1))), (2, .int (y2)), (4, .int (w4))]) hx hb dX3_reasonAhead_57 hl (k := 4) rfl (by rw [← e_v_13]; rfl) (by decide) rfl (fun ls hl => ?_)
            refine lv_goto (tgt := 75) hx hb dX3_reasonAhead_60 (by decide) ?_
            obtain ⟨v_14, e_v_14, hT⟩ := mx_nm hT
            refine lv_iinc (v := v_14) (lv' := [(4, .int (v_14)), (3, .int (v_13)), (5, .ref (mad E (o_3))), (0, .ref (mad E (y0))), (1, .ref (mad E (y1))), (2, .int (y2))]) hx hb dX3_reasonAhead_75 hl (k := 5) rfl (by rw [← e_v_14]; rfl) (by decide) rfl (fun ls hl => ?_)
            refine lv_goto (tgt := 5) hx hb dX3_reasonAhead_78 (by decide) ?_
            exact ih _ _ _ _ _ _ _ hT Z (lv_sub hl [3, 4, 5, 1, 0] rfl) k0 k1
          · replace hT := mx_f hT h_12
            cases hT
            exact k1 rfl _ _ _ Z (lv_sub hl [1, 2, 3] rfl)
set_option maxHeartbeats 4000000 in
set_option maxRecDepth 100000 in
theorem c3_reasonAhead (l : Launch) (E : mE) (hJ : mJ E) {c : Nat} {d1 : Nat} (hc : mSt E c) (hd1 : mTr E d1) (x2 : Int32) (G : mM) (q : Int32) (hT : x3_reasonAhead c d1 x2 G = some q) : mMet l E yX3_reasonAhead cX3_reasonAhead 6 (some .int) 1 22 [.ref (mad E (c)), .ref (mad E (d1)), .int (x2)] G (some (.int q)) G := by
  refine Met.ofW (cc := cX3_reasonAhead) (maxL := 6) (ret := (some .int)) (by decide) rfl ?_
  intro p e s m args below meth cd s₁ B hml hv
  obtain ⟨rfl, hP, hK, hS⟩ := hv
  have X := mx_entry (own := RX3) B hml hK hJ hS rfl
  have hx := X.1
  have hb := X.2.1
  have hown := X.2.2.2.1
  have hts := X.2.2.2.2.1
  have hr := B.returns
  have hlocks := B.notSynchronized
  have hR : 1 ≤ (headSpec (mWs yX3_reasonAhead cX3_reasonAhead 6 (some .int)) ({ frames := 1, cells := 0, slots := 0, locals := 22 })).room.frames ∧ 22 ≤ (headSpec (mWs yX3_reasonAhead cX3_reasonAhead 6 (some .int)) ({ frames := 1, cells := 0, slots := 0, locals := 22 })).room.locals := ⟨Nat.le_refl _, Nat.le_refl _⟩
  have Z : mZ E s.heap s.heap [] G := ⟨hP, va_S.rf⟩
  have hl := lv_entry ([.ref (mad E (c)), .ref (mad E (d1)), .int (x2)]) (n := 6) (Nat.le_of_ble_eq_true rfl)
  rw [lg_entry_eq]
  generalize (lg_sl ([.ref (mad E (c)), .ref (mad E (d1)), .int (x2)]) ++ List.replicate (6 - (lg_sl ([.ref (mad E (c)), .ref (mad E (d1)), .int (x2)])).length) Slot.unset).toArray = ls at hl ⊢
  have hl : lv_has ls 6 [(0, .ref (mad E (c))), (1, .ref (mad E (d1))), (2, .int (x2))] := hl
  unfold x3_reasonAhead at hT
  refine lv_iconst (v := (0 : Int32)) hx hb dX3_reasonAhead_0 (by decide) ?_
  refine lv_istore_n (lv' := [(3, .int ((0 : Int32))), (0, .ref (mad E (c))), (1, .ref (mad E (d1))), (2, .int (x2))]) hx hb dX3_reasonAhead_1 rfl hl (by decide) rfl (fun ls hl => ?_)
  refine lv_iconst (v := (0 : Int32)) hx hb dX3_reasonAhead_2 (by decide) ?_
  refine lv_istore (lv' := [(4, .int ((0 : Int32))), (3, .int ((0 : Int32))), (0, .ref (mad E (c))), (1, .ref (mad E (d1))), (2, .int (x2))]) hx hb dX3_reasonAhead_3 hl (by decide) rfl (fun ls hl => ?_)
  obtain ⟨q_15, h_q_15, hT⟩ := mx_bind hT
  refine k3_reasonAhead_5 X hR hJ hc hd1 _ _ _ _ _ _ _ _ _ h_q_15 Z (lv_sub (l' := [(0, .ref (mad E (c))), (1, .ref (mad E (d1))), (2, .int (x2)), (3, .int ((0 : Int32))), (4, .int ((0 : Int32)))]) hl [2, 3, 4, 1, 0] rfl) (fun ht H locs ls Z hl => ?_) (fun ht H locs ls Z hl => ?_)
  · replace hT := mx_t hT ht
    refine lv_aload_n hx hb dX3_reasonAhead_81 rfl (lv_at hl 0 rfl) ?_
    refine lv_iload_n hx hb dX3_reasonAhead_82 rfl (lv_at hl 2 rfl) ?_
    obtain ⟨q_16, h_q_16, hT⟩ := mx_bind hT
    refine mx_callV (As := [.int (x2)]) (rest := []) (st1 := [va_re (mad E) q_16]) (C := RX3) (T := TX3) (N := 11) (ci := 3) X Z hl.1 (c3_segmentAt l E hJ hc _ _ _ h_q_16) wd_6_4 wd_6_5 wd_6_6 wd_1_16 wd_6_7 hd3_segmentAt ⟨Nat.le_trans (by decide) hR.1, Nat.le_trans (by decide) hR.2⟩ ⟨Nat.zero_le _, Nat.zero_le _⟩ hc.i (hc.c _) rfl (Nat.le_of_ble_eq_true rfl) rfl rfl dX3_reasonAhead_83 (fun H locs Z => ?_)
    have hk_18 := c3_segmentAt_k E hc _ _ _ h_q_16
    rcases q_16 with _ | o_17
    · replace hT := mx_on hT
      refine mx_tops (s2 := [.null]) rfl ?_
      refine lv_astoreN (lv' := [(4, .null), (0, .ref (mad E (c))), (1, .ref (mad E (d1))), (2, .int (x2)), (3, .int (q_15.2))]) hx hb dX3_reasonAhead_86 hl (by decide) rfl (fun ls hl => ?_)
      refine lv_aloadN hx hb dX3_reasonAhead_88 (lv_at hl 0 rfl) ?_
      refine lv_ifnullN (tgt := 106) hx hb dX3_reasonAhead_90 (by decide) ?_
      refine lv_iconst (v := (0 : Int32)) hx hb dX3_reasonAhead_106 (by decide) ?_
      cases hT
      exact W.iret hx hb hr (fun t ht hW => mx_end Z t ht _) Z.2.2.2 dX3_reasonAhead_107
    · replace hT := mx_os hT
      refine mx_tops (s2 := [.ref (mad E o_17)]) rfl ?_
      refine lv_astore (lv' := [(4, .ref (mad E (o_17))), (0, .ref (mad E (c))), (1, .ref (mad E (d1))), (2, .int (x2)), (3, .int (q_15.2))]) hx hb dX3_reasonAhead_86 hl (by decide) rfl (fun ls hl => ?_)
      refine lv_aload hx hb dX3_reasonAhead_88 (lv_at hl 0 rfl) ?_
      refine lv_ifnull hx hb dX3_reasonAhead_90 ?_
      refine lv_iload_n hx hb dX3_reasonAhead_93 rfl (lv_at hl 4 rfl) ?_
      refine lv_aload hx hb dX3_reasonAhead_94 (lv_at hl 0 rfl) ?_
      refine mx_get (v := .int (G o_17 1)) (ci := 2) (C := RX2) (T := TX2) (N := 6) X Z ((hk_18 o_17 rfl)).i (((hk_18 o_17 rfl)).c _) rfl inlX2 1 (by decide) wd_6_19 rfl dX3_reasonAhead_96 ?_
      refine lv_icmp_lt (tgt := 106) hx hb dX3_reasonAhead_99 (by decide) (fun h_19 => ?_) (fun h_19 => ?_)
      · replace hT := mx_t hT h_19
        refine lv_iconst (v := (0 : Int32)) hx hb dX3_reasonAhead_106 (by decide) ?_
        cases hT
        exact W.iret hx hb hr (fun t ht hW => mx_end Z t ht _) Z.2.2.2 dX3_reasonAhead_107
      · replace hT := mx_f hT h_19
        refine lv_iconst (v := (5 : Int32)) hx hb dX3_reasonAhead_102 (by decide) ?_
        refine lv_goto (tgt := 107) hx hb dX3_reasonAhead_103 (by decide) ?_
        cases hT
        exact W.iret hx hb hr (fun t ht hW => mx_end Z t ht _) Z.2.2.2 dX3_reasonAhead_107
  · replace hT := mx_f hT (by rw [ht]; decide)
    refine lv_iconst (v := (4 : Int32)) hx hb dX3_reasonAhead_55 (by decide) ?_
    cases hT
    exact W.iret hx hb hr (fun t ht hW => mx_end Z t ht _) Z.2.2.2 dX3_reasonAhead_56
/-! PeatRailway$State.reasonToWait -/
def x3_reasonToWait (c : Nat) (d1 : Nat) (G : mM) : Option Int32 :=
  (x3_isToUnload c d1 G).bind fun q_1 =>
  if q_1 = 0 then
    (x3_isToLoad c d1 G).bind fun q_3 =>
    if q_3 = 0 then
      (x3_placeBeyond c d1 G).bind fun q_5 =>
      (x3_segmentAt c (G d1 3) G).bind fun q_6 =>
      mOpt q_6 (
        (x3_segmentAt c q_5 G).bind fun q_9 =>
        mOpt q_9 (
          some ((0 : Int32))) fun o_10 =>
          some ((0 : Int32))) fun o_7 =>
        (x3_segmentAt c q_5 G).bind fun q_12 =>
        mOpt q_12 (
          some ((0 : Int32))) fun o_13 =>
          if (G o_13 2) ≤ (G ((c + 3)) 0) then
            (x3_trainsIn c q_5 G).bind fun q_16 =>
            if q_16 < (G o_13 1) then
              (x2_isPassingPlace o_7 G).bind fun q_18 =>
              if q_18 = 0 then
                some ((0 : Int32))
              else
                (x2_isPassingPlace o_13 G).bind fun q_20 =>
                if q_20 = 0 then
                  if (G d1 4) = 0 then
                    (x3_reasonAhead c d1 (G o_7 4) G).bind fun q_23 =>
                    some (q_23)
                  else
                    (x3_reasonAhead c d1 (G o_7 3) G).bind fun q_24 =>
                    some (q_24)
                else
                  some ((0 : Int32))
            else
              some ((3 : Int32))
          else
            some ((2 : Int32))
    else
      (x4_fullLoad d1 G).bind fun q_25 =>
      if (G c 5) < q_25 then
        some ((1 : Int32))
      else
        some ((0 : Int32))
  else
    some ((0 : Int32))
theorem hd3_reasonToWait : yX3_reasonToWait.cls = RX3 ∧ yX3_reasonToWait.cls ≠ "java/lang/invoke/MethodHandle" ∧ yX3_reasonToWait.cls ≠ "java/lang/invoke/VarHandle" ∧ (parseMethodDescriptor yX3_reasonToWait.desc).map (fun d => d.parameters.length) = some 1 := by decide +kernel
set_option maxHeartbeats 4000000 in
set_option maxRecDepth 100000 in
theorem c3_reasonToWait (l : Launch) (E : mE) (hJ : mJ E) {c : Nat} {d1 : Nat} (hc : mSt E c) (hd1 : mTr E d1) (G : mM) (q : Int32) (hT : x3_reasonToWait c d1 G = some q) : mMet l E yX3_reasonToWait cX3_reasonToWait 5 (some .int) 2 47 [.ref (mad E (c)), .ref (mad E (d1))] G (some (.int q)) G := by
  refine Met.ofW (cc := cX3_reasonToWait) (maxL := 5) (ret := (some .int)) (by decide) rfl ?_
  intro p e s m args below meth cd s₁ B hml hv
  obtain ⟨rfl, hP, hK, hS⟩ := hv
  have X := mx_entry (own := RX3) B hml hK hJ hS rfl
  have hx := X.1
  have hb := X.2.1
  have hown := X.2.2.2.1
  have hts := X.2.2.2.2.1
  have hr := B.returns
  have hlocks := B.notSynchronized
  have hR : 2 ≤ (headSpec (mWs yX3_reasonToWait cX3_reasonToWait 5 (some .int)) ({ frames := 2, cells := 0, slots := 0, locals := 47 })).room.frames ∧ 47 ≤ (headSpec (mWs yX3_reasonToWait cX3_reasonToWait 5 (some .int)) ({ frames := 2, cells := 0, slots := 0, locals := 47 })).room.locals := ⟨Nat.le_refl _, Nat.le_refl _⟩
  have Z : mZ E s.heap s.heap [] G := ⟨hP, va_S.rf⟩
  have hl := lv_entry ([.ref (mad E (c)), .ref (mad E (d1))]) (n := 5) (Nat.le_of_ble_eq_true rfl)
  rw [lg_entry_eq]
  generalize (lg_sl ([.ref (mad E (c)), .ref (mad E (d1))]) ++ List.replicate (5 - (lg_sl ([.ref (mad E (c)), .ref (mad E (d1))])).length) Slot.unset).toArray = ls at hl ⊢
  have hl : lv_has ls 5 [(0, .ref (mad E (c))), (1, .ref (mad E (d1)))] := hl
  unfold x3_reasonToWait at hT
  refine lv_aload_n hx hb dX3_reasonToWait_0 rfl (lv_at hl 0 rfl) ?_
  refine lv_aload_n hx hb dX3_reasonToWait_1 rfl (lv_at hl 1 rfl) ?_
  obtain ⟨q_1, h_q_1, hT⟩ := mx_bind hT
  refine mx_callV (As := [.ref (mad E (d1))]) (rest := []) (st1 := [.int (q_1)]) (C := RX3) (T := TX3) (N := 11) (ci := 3) X Z hl.1 (c3_isToUnload l E hJ hc hd1 _ _ h_q_1) wd_13_8 wd_13_9 wd_13_10 wd_1_16 wd_13_11 hd3_isToUnload ⟨Nat.le_trans (by decide) hR.1, Nat.le_trans (by decide) hR.2⟩ ⟨Nat.zero_le _, Nat.zero_le _⟩ hc.i (hc.c _) rfl (Nat.le_of_ble_eq_true rfl) rfl rfl dX3_reasonToWait_2 (fun H locs Z => ?_)
  refine lv_if_eq (tgt := 10) hx hb dX3_reasonToWait_5 (by decide) (fun h_2 => ?_) (fun h_2 => ?_)
  · replace hT := mx_t hT h_2
    refine lv_aload_n hx hb dX3_reasonToWait_10 rfl (lv_at hl 0 rfl) ?_
    refine lv_aload_n hx hb dX3_reasonToWait_11 rfl (lv_at hl 1 rfl) ?_
    obtain ⟨q_3, h_q_3, hT⟩ := mx_bind hT
    refine mx_callV (As := [.ref (mad E (d1))]) (rest := []) (st1 := [.int (q_3)]) (C := RX3) (T := TX3) (N := 11) (ci := 3) X Z hl.1 (c3_isToLoad l E hJ hc hd1 _ _ h_q_3) wd_13_12 wd_13_13 wd_13_14 wd_1_16 wd_13_15 hd3_isToLoad ⟨Nat.le_trans (by decide) hR.1, Nat.le_trans (by decide) hR.2⟩ ⟨Nat.zero_le _, Nat.zero_le _⟩ hc.i (hc.c _) rfl (Nat.le_of_ble_eq_true rfl) rfl rfl dX3_reasonToWait_12 (fun H locs Z => ?_)
    refine lv_if_eq (tgt := 35) hx hb dX3_reasonToWait_15 (by decide) (fun h_4 => ?_) (fun h_4 => ?_)
    · replace hT := mx_t hT h_4
      refine lv_aload_n hx hb dX3_reasonToWait_35 rfl (lv_at hl 0 rfl) ?_
      refine lv_aload_n hx hb dX3_reasonToWait_36 rfl (lv_at hl 1 rfl) ?_
      obtain ⟨q_5, h_q_5, hT⟩ := mx_bind hT
      refine mx_callV (As := [.ref (mad E (d1))]) (rest := []) (st1 := [.int (q_5)]) (C := RX3) (T := TX3) (N := 11) (ci := 3) X Z hl.1 (c3_placeBeyond l E hJ hc hd1 _ _ h_q_5) wd_13_20 wd_13_21 wd_13_22 wd_1_16 wd_13_23 hd3_placeBeyond ⟨Nat.le_trans (by decide) hR.1, Nat.le_trans (by decide) hR.2⟩ ⟨Nat.zero_le _, Nat.zero_le _⟩ hc.i (hc.c _) rfl (Nat.le_of_ble_eq_true rfl) rfl rfl dX3_reasonToWait_37 (fun H locs Z => ?_)
      refine lv_istore_n (lv' := [(2, .int (q_5)), (0, .ref (mad E (c))), (1, .ref (mad E (d1)))]) hx hb dX3_reasonToWait_40 rfl hl (by decide) rfl (fun ls hl => ?_)
      refine lv_aload_n hx hb dX3_reasonToWait_41 rfl (lv_at hl 1 rfl) ?_
      refine lv_aload_n hx hb dX3_reasonToWait_42 rfl (lv_at hl 2 rfl) ?_
      refine mx_get (v := .int (G d1 3)) (ci := 4) (C := RX4) (T := TX4) (N := 10) X Z hd1.i (hd1.c _) rfl inlX4 3 (by decide) wd_10_23 rfl dX3_reasonToWait_43 ?_
      obtain ⟨q_6, h_q_6, hT⟩ := mx_bind hT
      refine mx_callV (As := [.int (G d1 3)]) (rest := []) (st1 := [va_re (mad E) q_6]) (C := RX3) (T := TX3) (N := 11) (ci := 3) X Z hl.1 (c3_segmentAt l E hJ hc _ _ _ h_q_6) wd_6_4 wd_6_5 wd_6_6 wd_1_16 wd_6_7 hd3_segmentAt ⟨Nat.le_trans (by decide) hR.1, Nat.le_trans (by decide) hR.2⟩ ⟨Nat.zero_le _, Nat.zero_le _⟩ hc.i (hc.c _) rfl (Nat.le_of_ble_eq_true rfl) rfl rfl dX3_reasonToWait_46 (fun H locs Z => ?_)
      have hk_8 := c3_segmentAt_k E hc _ _ _ h_q_6
      rcases q_6 with _ | o_7
      · replace hT := mx_on hT
        refine mx_tops (s2 := [.null]) rfl ?_
        refine lv_astore_nN (lv' := [(3, .null), (2, .int (q_5)), (0, .ref (mad E (c))), (1, .ref (mad E (d1)))]) hx hb dX3_reasonToWait_49 rfl hl (by decide) rfl (fun ls hl => ?_)
        refine lv_aload_n hx hb dX3_reasonToWait_50 rfl (lv_at hl 2 rfl) ?_
        refine lv_iload_n hx hb dX3_reasonToWait_51 rfl (lv_at hl 1 rfl) ?_
        obtain ⟨q_9, h_q_9, hT⟩ := mx_bind hT
        refine mx_callV (As := [.int (q_5)]) (rest := []) (st1 := [va_re (mad E) q_9]) (C := RX3) (T := TX3) (N := 11) (ci := 3) X Z hl.1 (c3_segmentAt l E hJ hc _ _ _ h_q_9) wd_6_4 wd_6_5 wd_6_6 wd_1_16 wd_6_7 hd3_segmentAt ⟨Nat.le_trans (by decide) hR.1, Nat.le_trans (by decide) hR.2⟩ ⟨Nat.zero_le _, Nat.zero_le _⟩ hc.i (hc.c _) rfl (Nat.le_of_ble_eq_true rfl) rfl rfl dX3_reasonToWait_52 (fun H locs Z => ?_)
        have hk_11 := c3_segmentAt_k E hc _ _ _ h_q_9
        rcases q_9 with _ | o_10
        · replace hT := mx_on hT
          refine mx_tops (s2 := [.null]) rfl ?_
          refine lv_astoreN (lv' := [(4, .null), (3, .null), (2, .int (q_5)), (0, .ref (mad E (c))), (1, .ref (mad E (d1)))]) hx hb dX3_reasonToWait_55 hl (by decide) rfl (fun ls hl => ?_)
          refine lv_aload_nN hx hb dX3_reasonToWait_57 rfl (lv_at hl 1 rfl) ?_
          refine lv_ifnullN (tgt := 66) hx hb dX3_reasonToWait_58 (by decide) ?_
          refine lv_iconst (v := (0 : Int32)) hx hb dX3_reasonToWait_66 (by decide) ?_
          cases hT
          exact W.iret hx hb hr (fun t ht hW => mx_end Z t ht _) Z.2.2.2 dX3_reasonToWait_67
        · replace hT := mx_os hT
          refine mx_tops (s2 := [.ref (mad E o_10)]) rfl ?_
          refine lv_astore (lv' := [(4, .ref (mad E (o_10))), (3, .null), (2, .int (q_5)), (0, .ref (mad E (c))), (1, .ref (mad E (d1)))]) hx hb dX3_reasonToWait_55 hl (by decide) rfl (fun ls hl => ?_)
          refine lv_aload_nN hx hb dX3_reasonToWait_57 rfl (lv_at hl 1 rfl) ?_
          refine lv_ifnullN (tgt := 66) hx hb dX3_reasonToWait_58 (by decide) ?_
          refine lv_iconst (v := (0 : Int32)) hx hb dX3_reasonToWait_66 (by decide) ?_
          cases hT
          exact W.iret hx hb hr (fun t ht hW => mx_end Z t ht _) Z.2.2.2 dX3_reasonToWait_67
      · replace hT := mx_os hT
        refine mx_tops (s2 := [.ref (mad E o_7)]) rfl ?_
        refine lv_astore_n (lv' := [(3, .ref (mad E (o_7))), (2, .int (q_5)), (0, .ref (mad E (c))), (1, .ref (mad E (d1)))]) hx hb dX3_reasonToWait_49 rfl hl (by decide) rfl (fun ls hl => ?_)
        refine lv_aload_n hx hb dX3_reasonToWait_50 rfl (lv_at hl 2 rfl) ?_
        refine lv_iload_n hx hb dX3_reasonToWait_51 rfl (lv_at hl 1 rfl) ?_
        obtain ⟨q_12, h_q_12, hT⟩ := mx_bind hT
        refine mx_callV (As := [.int (q_5)]) (rest := []) (st1 := [va_re (mad E) q_12]) (C := RX3) (T := TX3) (N := 11) (ci := 3) X Z hl.1 (c3_segmentAt l E hJ hc _ _ _ h_q_12) wd_6_4 wd_6_5 wd_6_6 wd_1_16 wd_6_7 hd3_segmentAt ⟨Nat.le_trans (by decide) hR.1, Nat.le_trans (by decide) hR.2⟩ ⟨Nat.zero_le _, Nat.zero_le _⟩ hc.i (hc.c _) rfl (Nat.le_of_ble_eq_true rfl) rfl rfl dX3_reasonToWait_52 (fun H locs Z => ?_)
        have hk_14 := c3_segmentAt_k E hc _ _ _ h_q_12
        rcases q_12 with _ | o_13
        · replace hT := mx_on hT
          refine mx_tops (s2 := [.null]) rfl ?_
          refine lv_astoreN (lv' := [(4, .null), (3, .ref (mad E (o_7))), (2, .int (q_5)), (0, .ref (mad E (c))), (1, .ref (mad E (d1)))]) hx hb dX3_reasonToWait_55 hl (by decide) rfl (fun ls hl => ?_)
          refine lv_aload_n hx hb dX3_reasonToWait_57 rfl (lv_at hl 1 rfl) ?_
          refine lv_ifnull hx hb dX3_reasonToWait_58 ?_
          refine lv_aloadN hx hb dX3_reasonToWait_61 (lv_at hl 0 rfl) ?_
          refine lv_ifnonnullN hx hb dX3_reasonToWait_63 ?_
          refine lv_iconst (v := (0 : Int32)) hx hb dX3_reasonToWait_66 (by decide) ?_
          cases hT
          exact W.iret hx hb hr (fun t ht hW => mx_end Z t ht _) Z.2.2.2 dX3_reasonToWait_67
        · replace hT := mx_os hT
          refine mx_tops (s2 := [.ref (mad E o_13)]) rfl ?_
          refine lv_astore (lv' := [(4, .ref (mad E (o_13))), (3, .ref (mad E (o_7))), (2, .int (q_5)), (0, .ref (mad E (c))), (1, .ref (mad E (d1)))]) hx hb dX3_reasonToWait_55 hl (by decide) rfl (fun ls hl => ?_)
          refine lv_aload_n hx hb dX3_reasonToWait_57 rfl (lv_at hl 1 rfl) ?_
          refine lv_ifnull hx hb dX3_reasonToWait_58 ?_
          refine lv_aload hx hb dX3_reasonToWait_61 (lv_at hl 0 rfl) ?_
          refine lv_ifnonnull (tgt := 68) hx hb dX3_reasonToWait_63 (by decide) ?_
          refine lv_aload hx hb dX3_reasonToWait_68 (lv_at hl 0 rfl) ?_
          refine mx_get (v := .int (G o_13 2)) (ci := 2) (C := RX2) (T := TX2) (N := 6) X Z ((hk_14 o_13 rfl)).i (((hk_14 o_13 rfl)).c _) rfl inlX2 2 (by decide) wd_13_6 rfl dX3_reasonToWait_70 ?_
          refine lv_aload_n hx hb dX3_reasonToWait_73 rfl (lv_at hl 3 rfl) ?_
          refine mx_get (v := .ref (mad E ((c + 3)))) (ci := 3) (C := RX3) (T := TX3) (N := 11) X Z hc.i (hc.c _) rfl inlX3 2 (by decide) wd_5_1 rfl dX3_reasonToWait_74 ?_
          refine lv_iconst (v := (0 : Int32)) hx hb dX3_reasonToWait_77 (by decide) ?_
          refine mx_iald X Z hc.sets (mx_lit (by decide)) dX3_reasonToWait_78 ?_
          refine mx_tops (s2 := [.int (G ((c + 3)) 0), .int (G o_13 2)]) rfl ?_
          refine lv_icmp_le (tgt := 84) hx hb dX3_reasonToWait_79 (by decide) (fun h_15 => ?_) (fun h_15 => ?_)
          · replace hT := mx_t hT h_15
            refine lv_aload_n hx hb dX3_reasonToWait_84 rfl (lv_at hl 3 rfl) ?_
            refine lv_iload_n hx hb dX3_reasonToWait_85 rfl (lv_at hl 2 rfl) ?_
            obtain ⟨q_16, h_q_16, hT⟩ := mx_bind hT
            refine mx_callV (As := [.int (q_5)]) (rest := []) (st1 := [.int (q_16)]) (C := RX3) (T := TX3) (N := 11) (ci := 3) X Z hl.1 (c3_trainsIn l E hJ hc _ _ _ h_q_16) wd_14_0 wd_10_20 wd_10_21 wd_1_16 wd_10_22 hd3_trainsIn ⟨Nat.le_trans (by decide) hR.1, Nat.le_trans (by decide) hR.2⟩ ⟨Nat.zero_le _, Nat.zero_le _⟩ hc.i (hc.c _) rfl (Nat.le_of_ble_eq_true rfl) rfl rfl dX3_reasonToWait_86 (fun H locs Z => ?_)
            refine lv_aload hx hb dX3_reasonToWait_89 (lv_at hl 0 rfl) ?_
            refine mx_get (v := .int (G o_13 1)) (ci := 2) (C := RX2) (T := TX2) (N := 6) X Z ((hk_14 o_13 rfl)).i (((hk_14 o_13 rfl)).c _) rfl inlX2 1 (by decide) wd_6_19 rfl dX3_reasonToWait_91 ?_
            refine lv_icmp_lt (tgt := 99) hx hb dX3_reasonToWait_94 (by decide) (fun h_17 => ?_) (fun h_17 => ?_)
            · replace hT := mx_t hT h_17
              refine lv_aload_n hx hb dX3_reasonToWait_99 rfl (lv_at hl 1 rfl) ?_
              obtain ⟨q_18, h_q_18, hT⟩ := mx_bind hT
              refine mx_callV (As := []) (rest := []) (st1 := [.int (q_18)]) (C := RX2) (T := TX2) (N := 6) (ci := 2) X Z hl.1 (c2_isPassingPlace l E hJ ((hk_8 o_7 rfl)) _ _ h_q_18) wd_7_2 wd_7_3 wd_7_4 wd_4_20 wd_7_5 hd2_isPassingPlace ⟨Nat.le_trans (by decide) hR.1, Nat.le_trans (by decide) hR.2⟩ ⟨Nat.zero_le _, Nat.zero_le _⟩ ((hk_8 o_7 rfl)).i (((hk_8 o_7 rfl)).c _) rfl (Nat.le_of_ble_eq_true rfl) rfl rfl dX3_reasonToWait_100 (fun H locs Z => ?_)
              refine lv_if_eq (tgt := 114) hx hb dX3_reasonToWait_103 (by decide) (fun h_19 => ?_) (fun h_19 => ?_)
              · replace hT := mx_t hT h_19
                refine lv_iconst (v := (0 : Int32)) hx hb dX3_reasonToWait_114 (by decide) ?_
                cases hT
                exact W.iret hx hb hr (fun t ht hW => mx_end Z t ht _) Z.2.2.2 dX3_reasonToWait_115
              · replace hT := mx_f hT h_19
                refine lv_aload hx hb dX3_reasonToWait_106 (lv_at hl 0 rfl) ?_
                obtain ⟨q_20, h_q_20, hT⟩ := mx_bind hT
                refine mx_callV (As := []) (rest := []) (st1 := [.int (q_20)]) (C := RX2) (T := TX2) (N := 6) (ci := 2) X Z hl.1 (c2_isPassingPlace l E hJ ((hk_14 o_13 rfl)) _ _ h_q_20) wd_7_2 wd_7_3 wd_7_4 wd_4_20 wd_7_5 hd2_isPassingPlace ⟨Nat.le_trans (by decide) hR.1, Nat.le_trans (by decide) hR.2⟩ ⟨Nat.zero_le _, Nat.zero_le _⟩ ((hk_14 o_13 rfl)).i (((hk_14 o_13 rfl)).c _) rfl (Nat.le_of_ble_eq_true rfl) rfl rfl dX3_reasonToWait_108 (fun H locs Z => ?_)
                refine lv_if_eq (tgt := 116) hx hb dX3_reasonToWait_111 (by decide) (fun h_21 => ?_) (fun h_21 => ?_)
                · replace hT := mx_t hT h_21
                  refine lv_aload_n hx hb dX3_reasonToWait_116 rfl (lv_at hl 3 rfl) ?_
                  refine lv_aload_n hx hb dX3_reasonToWait_117 rfl (lv_at hl 4 rfl) ?_
                  refine lv_aload_n hx hb dX3_reasonToWait_118 rfl (lv_at hl 4 rfl) ?_
                  refine mx_get (v := .int (G d1 4)) (ci := 4) (C := RX4) (T := TX4) (N := 10) X Z hd1.i (hd1.c _) rfl inlX4 4 (by decide) wd_13_7 rfl dX3_reasonToWait_119 ?_
                  refine lv_if_eq (tgt := 132) hx hb dX3_reasonToWait_122 (by decide) (fun h_22 => ?_) (fun h_22 => ?_)
                  · replace hT := mx_t hT h_22
                    refine lv_aload_n hx hb dX3_reasonToWait_132 rfl (lv_at hl 1 rfl) ?_
                    refine mx_get (v := .int (G o_7 4)) (ci := 2) (C := RX2) (T := TX2) (N := 6) X Z ((hk_8 o_7 rfl)).i (((hk_8 o_7 rfl)).c _) rfl inlX2 4 (by decide) wd_7_0 rfl dX3_reasonToWait_133 ?_
                    obtain ⟨q_23, h_q_23, hT⟩ := mx_bind hT
                    refine mx_callV (As := [.ref (mad E (d1)), .int (G o_7 4)]) (rest := []) (st1 := [.int (q_23)]) (C := RX3) (T := TX3) (N := 11) (ci := 3) X Z hl.1 (c3_reasonAhead l E hJ hc hd1 _ _ _ h_q_23) wd_14_1 wd_14_2 wd_14_3 wd_1_16 wd_14_4 hd3_reasonAhead ⟨Nat.le_trans (by decide) hR.1, Nat.le_trans (by decide) hR.2⟩ ⟨Nat.zero_le _, Nat.zero_le _⟩ hc.i (hc.c _) rfl (Nat.le_of_ble_eq_true rfl) rfl rfl dX3_reasonToWait_136 (fun H locs Z => ?_)
                    cases hT
                    exact W.iret hx hb hr (fun t ht hW => mx_end Z t ht _) Z.2.2.2 dX3_reasonToWait_139
                  · replace hT := mx_f hT h_22
                    refine lv_aload_n hx hb dX3_reasonToWait_125 rfl (lv_at hl 1 rfl) ?_
                    refine mx_get (v := .int (G o_7 3)) (ci := 2) (C := RX2) (T := TX2) (N := 6) X Z ((hk_8 o_7 rfl)).i (((hk_8 o_7 rfl)).c _) rfl inlX2 3 (by decide) wd_7_1 rfl dX3_reasonToWait_126 ?_
                    refine lv_goto (tgt := 136) hx hb dX3_reasonToWait_129 (by decide) ?_
                    obtain ⟨q_24, h_q_24, hT⟩ := mx_bind hT
                    refine mx_callV (As := [.ref (mad E (d1)), .int (G o_7 3)]) (rest := []) (st1 := [.int (q_24)]) (C := RX3) (T := TX3) (N := 11) (ci := 3) X Z hl.1 (c3_reasonAhead l E hJ hc hd1 _ _ _ h_q_24) wd_14_1 wd_14_2 wd_14_3 wd_1_16 wd_14_4 hd3_reasonAhead ⟨Nat.le_trans (by decide) hR.1, Nat.le_trans (by decide) hR.2⟩ ⟨Nat.zero_le _, Nat.zero_le _⟩ hc.i (hc.c _) rfl (Nat.le_of_ble_eq_true rfl) rfl rfl dX3_reasonToWait_136 (fun H locs Z => ?_)
                    cases hT
                    exact W.iret hx hb hr (fun t ht hW => mx_end Z t ht _) Z.2.2.2 dX3_reasonToWait_139
                · replace hT := mx_f hT h_21
                  refine lv_iconst (v := (0 : Int32)) hx hb dX3_reasonToWait_114 (by decide) ?_
                  cases hT
                  exact W.iret hx hb hr (fun t ht hW => mx_end Z t ht _) Z.2.2.2 dX3_reasonToWait_115
            · replace hT := mx_f hT h_17
              refine lv_iconst (v := (3 : Int32)) hx hb dX3_reasonToWait_97 (by decide) ?_
              cases hT
              exact W.iret hx hb hr (fun t ht hW => mx_end Z t ht _) Z.2.2.2 dX3_reasonToWait_98
          · replace hT := mx_f hT h_15
            refine lv_iconst (v := (2 : Int32)) hx hb dX3_reasonToWait_82 (by decide) ?_
            cases hT
            exact W.iret hx hb hr (fun t ht hW => mx_end Z t ht _) Z.2.2.2 dX3_reasonToWait_83
    · replace hT := mx_f hT h_4
      refine lv_aload_n hx hb dX3_reasonToWait_18 rfl (lv_at hl 0 rfl) ?_
      refine mx_get (v := .int (G c 5)) (ci := 3) (C := RX3) (T := TX3) (N := 11) X Z hc.i (hc.c _) rfl inlX3 5 (by decide) wd_8_11 rfl dX3_reasonToWait_19 ?_
      refine lv_aload_n hx hb dX3_reasonToWait_22 rfl (lv_at hl 1 rfl) ?_
      obtain ⟨q_25, h_q_25, hT⟩ := mx_bind hT
      refine mx_callV (As := []) (rest := [.int (G c 5)]) (st1 := [.int (q_25), .int (G c 5)]) (C := RX4) (T := TX4) (N := 10) (ci := 4) X Z hl.1 (c4_fullLoad l E hJ hd1 _ _ h_q_25) wd_13_16 wd_13_17 wd_13_18 wd_5_0 wd_13_19 hd4_fullLoad ⟨Nat.le_trans (by decide) hR.1, Nat.le_trans (by decide) hR.2⟩ ⟨Nat.zero_le _, Nat.zero_le _⟩ hd1.i (hd1.c _) rfl (Nat.le_of_ble_eq_true rfl) rfl rfl dX3_reasonToWait_23 (fun H locs Z => ?_)
      refine lv_icmp_lt (tgt := 33) hx hb dX3_reasonToWait_26 (by decide) (fun h_26 => ?_) (fun h_26 => ?_)
      · replace hT := mx_t hT h_26
        refine lv_iconst (v := (1 : Int32)) hx hb dX3_reasonToWait_33 (by decide) ?_
        cases hT
        exact W.iret hx hb hr (fun t ht hW => mx_end Z t ht _) Z.2.2.2 dX3_reasonToWait_34
      · replace hT := mx_f hT h_26
        refine lv_iconst (v := (0 : Int32)) hx hb dX3_reasonToWait_29 (by decide) ?_
        refine lv_goto (tgt := 34) hx hb dX3_reasonToWait_30 (by decide) ?_
        cases hT
        exact W.iret hx hb hr (fun t ht hW => mx_end Z t ht _) Z.2.2.2 dX3_reasonToWait_34
  · replace hT := mx_f hT h_2
    refine lv_iconst (v := (0 : Int32)) hx hb dX3_reasonToWait_8 (by decide) ?_
    cases hT
    exact W.iret hx hb hr (fun t ht hW => mx_end Z t ht _) Z.2.2.2 dX3_reasonToWait_9
/-! PeatRailway$State.unloadTrain -/
def x3_unloadTrain (c : Nat) (d1 : Nat) (G : mM) : Option mM :=
  mNm (up2 G c 7 ((G c 7) + (G d1 2))) fun G_1 =>
  mNm (up2 G_1 d1 2 ((0 : Int32))) fun G_2 =>
  mNm (up2 G_2 d1 4 ((0 : Int32))) fun G_3 =>
  mNm (up2 G_3 d1 5 (G_3 d1 0)) fun G_4 =>
  mNm (up2 G_4 d1 8 ((G_4 d1 8) + ((1 : Int32)))) fun G_5 =>
  some (G_5)
theorem hd3_unloadTrain : yX3_unloadTrain.cls = RX3 ∧ yX3_unloadTrain.cls ≠ "java/lang/invoke/MethodHandle" ∧ yX3_unloadTrain.cls ≠ "java/lang/invoke/VarHandle" ∧ (parseMethodDescriptor yX3_unloadTrain.desc).map (fun d => d.parameters.length) = some 1 := by decide +kernel
set_option maxHeartbeats 4000000 in
set_option maxRecDepth 100000 in
theorem c3_unloadTrain (l : Launch) (E : mE) (hJ : mJ E) {c : Nat} {d1 : Nat} (hc : mSt E c) (hd1 : mTr E d1) (G : mM) (q : mM) (hT : x3_unloadTrain c d1 G = some q) : mMet l E yX3_unloadTrain cX3_unloadTrain 2 none 0 0 [.ref (mad E (c)), .ref (mad E (d1))] G (none) q := by
  refine Met.ofW (cc := cX3_unloadTrain) (maxL := 2) (ret := none) (by decide) rfl ?_
  intro p e s m args below meth cd s₁ B hml hv
  obtain ⟨rfl, hP, hK, hS⟩ := hv
  have X := mx_entry (own := RX3) B hml hK hJ hS rfl
  have hx := X.1
  have hb := X.2.1
  have hown := X.2.2.2.1
  have hts := X.2.2.2.2.1
  have hr := B.returns
  have hlocks := B.notSynchronized
  have hR : 0 ≤ (headSpec (mWs yX3_unloadTrain cX3_unloadTrain 2 none) ({ frames := 0, cells := 0, slots := 0, locals := 0 })).room.frames ∧ 0 ≤ (headSpec (mWs yX3_unloadTrain cX3_unloadTrain 2 none) ({ frames := 0, cells := 0, slots := 0, locals := 0 })).room.locals := ⟨Nat.le_refl _, Nat.le_refl _⟩
  have Z : mZ E s.heap s.heap [] G := ⟨hP, va_S.rf⟩
  have hl := lv_entry ([.ref (mad E (c)), .ref (mad E (d1))]) (n := 2) (Nat.le_of_ble_eq_true rfl)
  rw [lg_entry_eq]
  generalize (lg_sl ([.ref (mad E (c)), .ref (mad E (d1))]) ++ List.replicate (2 - (lg_sl ([.ref (mad E (c)), .ref (mad E (d1))])).length) Slot.unset).toArray = ls at hl ⊢
  have hl : lv_has ls 2 [(0, .ref (mad E (c))), (1, .ref (mad E (d1)))] := hl
  unfold x3_unloadTrain at hT
  refine lv_aload_n hx hb dX3_unloadTrain_0 rfl (lv_at hl 0 rfl) ?_
  refine lv_dup hx hb dX3_unloadTrain_1 rfl ?_
  refine mx_get (v := .int (G c 7)) (ci := 3) (C := RX3) (T := TX3) (N := 11) X Z hc.i (hc.c _) rfl inlX3 7 (by decide) wd_8_13 rfl dX3_unloadTrain_2 ?_
  refine lv_aload_n hx hb dX3_unloadTrain_5 rfl (lv_at hl 1 rfl) ?_
  refine mx_get (v := .int (G d1 2)) (ci := 4) (C := RX4) (T := TX4) (N := 10) X Z hd1.i (hd1.c _) rfl inlX4 2 (by decide) wd_15_6 rfl dX3_unloadTrain_6 ?_
  refine lv_iadd hx hb dX3_unloadTrain_9 ?_
  obtain ⟨G_1, e_G_1, hT⟩ := mx_nm hT
  refine mx_put (ci := 3) (C := RX3) (T := TX3) (N := 11) X Z hc.i (hc.c _) rfl inlX3 tyX3 tyX3_ok nmX3 7 (by decide) wd_8_13 rfl rfl rfl (by show 7 < 11; decide) ((hc.c _).trans (congrArg (fun z => Sum.inr (3, z)) (sp_St_7 (mad E) _ _ _))) dX3_unloadTrain_10 (fun H locs Z => ?_)
  rw [e_G_1] at Z
  refine lv_aload_n hx hb dX3_unloadTrain_13 rfl (lv_at hl 1 rfl) ?_
  refine lv_iconst (v := (0 : Int32)) hx hb dX3_unloadTrain_14 (by decide) ?_
  obtain ⟨G_2, e_G_2, hT⟩ := mx_nm hT
  refine mx_put (ci := 4) (C := RX4) (T := TX4) (N := 10) X Z hd1.i (hd1.c _) rfl inlX4 tyX4 tyX4_ok nmX4 2 (by decide) wd_15_6 rfl rfl rfl (by show 2 < 10; decide) ((hd1.c _).trans (congrArg (fun z => Sum.inr (4, z)) (sp_Tr_2 _ _ _))) dX3_unloadTrain_15 (fun H locs Z => ?_)
  rw [e_G_2] at Z
  refine lv_aload_n hx hb dX3_unloadTrain_18 rfl (lv_at hl 1 rfl) ?_
  refine lv_iconst (v := (0 : Int32)) hx hb dX3_unloadTrain_19 (by decide) ?_
  obtain ⟨G_3, e_G_3, hT⟩ := mx_nm hT
  refine mx_put (ci := 4) (C := RX4) (T := TX4) (N := 10) X Z hd1.i (hd1.c _) rfl inlX4 tyX4 tyX4_ok nmX4 4 (by decide) wd_13_7 rfl rfl rfl (by show 4 < 10; decide) ((hd1.c _).trans (congrArg (fun z => Sum.inr (4, z)) (sp_Tr_4 _ _ _))) dX3_unloadTrain_20 (fun H locs Z => ?_)
  rw [e_G_3] at Z
  refine lv_aload_n hx hb dX3_unloadTrain_23 rfl (lv_at hl 1 rfl) ?_
  refine lv_aload_n hx hb dX3_unloadTrain_24 rfl (lv_at hl 1 rfl) ?_
  refine mx_get (v := .int (G_3 d1 0)) (ci := 4) (C := RX4) (T := TX4) (N := 10) X Z hd1.i (hd1.c _) rfl inlX4 0 (by decide) wd_18_23 rfl dX3_unloadTrain_25 ?_
  obtain ⟨G_4, e_G_4, hT⟩ := mx_nm hT
  refine mx_put (ci := 4) (C := RX4) (T := TX4) (N := 10) X Z hd1.i (hd1.c _) rfl inlX4 tyX4 tyX4_ok nmX4 5 (by decide) wd_18_16 rfl rfl rfl (by show 5 < 10; decide) ((hd1.c _).trans (congrArg (fun z => Sum.inr (4, z)) (sp_Tr_5 _ _ _))) dX3_unloadTrain_28 (fun H locs Z => ?_)
  rw [e_G_4] at Z
  refine lv_aload_n hx hb dX3_unloadTrain_31 rfl (lv_at hl 1 rfl) ?_
  refine lv_dup hx hb dX3_unloadTrain_32 rfl ?_
  refine mx_get (v := .int (G_4 d1 8)) (ci := 4) (C := RX4) (T := TX4) (N := 10) X Z hd1.i (hd1.c _) rfl inlX4 8 (by decide) wd_19_0 rfl dX3_unloadTrain_33 ?_
  refine lv_iconst (v := (1 : Int32)) hx hb dX3_unloadTrain_36 (by decide) ?_
  refine lv_iadd hx hb dX3_unloadTrain_37 ?_
  obtain ⟨G_5, e_G_5, hT⟩ := mx_nm hT
  refine mx_put (ci := 4) (C := RX4) (T := TX4) (N := 10) X Z hd1.i (hd1.c _) rfl inlX4 tyX4 tyX4_ok nmX4 8 (by decide) wd_19_0 rfl rfl rfl (by show 8 < 10; decide) ((hd1.c _).trans (congrArg (fun z => Sum.inr (4, z)) (sp_Tr_8 _ _ _))) dX3_unloadTrain_38 (fun H locs Z => ?_)
  rw [e_G_5] at Z
  cases hT
  exact W.vret hx hb hr (fun t ht hW => mx_end Z t ht _) Z.2.2.2 dX3_unloadTrain_41
/-! PeatRailway$State.loadTrain -/
def x3_loadTrain (c : Nat) (d1 : Nat) (G : mM) : Option mM :=
  (x4_fullLoad d1 G).bind fun q_1 =>
  mNm (up2 G d1 2 q_1) fun G_2 =>
  mNm (up2 G_2 c 5 ((G_2 c 5) - (G_2 d1 2))) fun G_3 =>
  mNm (up2 G_3 d1 4 ((1 : Int32))) fun G_4 =>
  mNm (up2 G_4 d1 5 (G_4 d1 0)) fun G_5 =>
  some (G_5)
theorem hd3_loadTrain : yX3_loadTrain.cls = RX3 ∧ yX3_loadTrain.cls ≠ "java/lang/invoke/MethodHandle" ∧ yX3_loadTrain.cls ≠ "java/lang/invoke/VarHandle" ∧ (parseMethodDescriptor yX3_loadTrain.desc).map (fun d => d.parameters.length) = some 1 := by decide +kernel
set_option maxHeartbeats 4000000 in
set_option maxRecDepth 100000 in
theorem c3_loadTrain (l : Launch) (E : mE) (hJ : mJ E) {c : Nat} {d1 : Nat} (hc : mSt E c) (hd1 : mTr E d1) (G : mM) (q : mM) (hT : x3_loadTrain c d1 G = some q) : mMet l E yX3_loadTrain cX3_loadTrain 2 none 1 20 [.ref (mad E (c)), .ref (mad E (d1))] G (none) q := by
  refine Met.ofW (cc := cX3_loadTrain) (maxL := 2) (ret := none) (by decide) rfl ?_
  intro p e s m args below meth cd s₁ B hml hv
  obtain ⟨rfl, hP, hK, hS⟩ := hv
  have X := mx_entry (own := RX3) B hml hK hJ hS rfl
  have hx := X.1
  have hb := X.2.1
  have hown := X.2.2.2.1
  have hts := X.2.2.2.2.1
  have hr := B.returns
  have hlocks := B.notSynchronized
  have hR : 1 ≤ (headSpec (mWs yX3_loadTrain cX3_loadTrain 2 none) ({ frames := 1, cells := 0, slots := 0, locals := 20 })).room.frames ∧ 20 ≤ (headSpec (mWs yX3_loadTrain cX3_loadTrain 2 none) ({ frames := 1, cells := 0, slots := 0, locals := 20 })).room.locals := ⟨Nat.le_refl _, Nat.le_refl _⟩
  have Z : mZ E s.heap s.heap [] G := ⟨hP, va_S.rf⟩
  have hl := lv_entry ([.ref (mad E (c)), .ref (mad E (d1))]) (n := 2) (Nat.le_of_ble_eq_true rfl)
  rw [lg_entry_eq]
  generalize (lg_sl ([.ref (mad E (c)), .ref (mad E (d1))]) ++ List.replicate (2 - (lg_sl ([.ref (mad E (c)), .ref (mad E (d1))])).length) Slot.unset).toArray = ls at hl ⊢
  have hl : lv_has ls 2 [(0, .ref (mad E (c))), (1, .ref (mad E (d1)))] := hl
  unfold x3_loadTrain at hT
  refine lv_aload_n hx hb dX3_loadTrain_0 rfl (lv_at hl 1 rfl) ?_
  refine lv_aload_n hx hb dX3_loadTrain_1 rfl (lv_at hl 1 rfl) ?_
  obtain ⟨q_1, h_q_1, hT⟩ := mx_bind hT
  refine mx_callV (As := []) (rest := [.ref (mad E (d1))]) (st1 := [.int (q_1), .ref (mad E (d1))]) (C := RX4) (T := TX4) (N := 10) (ci := 4) X Z hl.1 (c4_fullLoad l E hJ hd1 _ _ h_q_1) wd_13_16 wd_13_17 wd_13_18 wd_5_0 wd_13_19 hd4_fullLoad ⟨Nat.le_trans (by decide) hR.1, Nat.le_trans (by decide) hR.2⟩ ⟨Nat.zero_le _, Nat.zero_le _⟩ hd1.i (hd1.c _) rfl (Nat.le_of_ble_eq_true rfl) rfl rfl dX3_loadTrain_2 (fun H locs Z => ?_)
  obtain ⟨G_2, e_G_2, hT⟩ := mx_nm hT
  refine mx_put (ci := 4) (C := RX4) (T := TX4) (N := 10) X Z hd1.i (hd1.c _) rfl inlX4 tyX4 tyX4_ok nmX4 2 (by decide) wd_15_6 rfl rfl rfl (by show 2 < 10; decide) ((hd1.c _).trans (congrArg (fun z => Sum.inr (4, z)) (sp_Tr_2 _ _ _))) dX3_loadTrain_5 (fun H locs Z => ?_)
  rw [e_G_2] at Z
  refine lv_aload_n hx hb dX3_loadTrain_8 rfl (lv_at hl 0 rfl) ?_
  refine lv_dup hx hb dX3_loadTrain_9 rfl ?_
  refine mx_get (v := .int (G_2 c 5)) (ci := 3) (C := RX3) (T := TX3) (N := 11) X Z hc.i (hc.c _) rfl inlX3 5 (by decide) wd_8_11 rfl dX3_loadTrain_10 ?_
  refine lv_aload_n hx hb dX3_loadTrain_13 rfl (lv_at hl 1 rfl) ?_
  refine mx_get (v := .int (G_2 d1 2)) (ci := 4) (C := RX4) (T := TX4) (N := 10) X Z hd1.i (hd1.c _) rfl inlX4 2 (by decide) wd_15_6 rfl dX3_loadTrain_14 ?_
  refine lv_isub hx hb dX3_loadTrain_17 ?_
  obtain ⟨G_3, e_G_3, hT⟩ := mx_nm hT
  refine mx_put (ci := 3) (C := RX3) (T := TX3) (N := 11) X Z hc.i (hc.c _) rfl inlX3 tyX3 tyX3_ok nmX3 5 (by decide) wd_8_11 rfl rfl rfl (by show 5 < 11; decide) ((hc.c _).trans (congrArg (fun z => Sum.inr (3, z)) (sp_St_5 (mad E) _ _ _))) dX3_loadTrain_18 (fun H locs Z => ?_)
  rw [e_G_3] at Z
  refine lv_aload_n hx hb dX3_loadTrain_21 rfl (lv_at hl 1 rfl) ?_
  refine lv_iconst (v := (1 : Int32)) hx hb dX3_loadTrain_22 (by decide) ?_
  obtain ⟨G_4, e_G_4, hT⟩ := mx_nm hT
  refine mx_put (ci := 4) (C := RX4) (T := TX4) (N := 10) X Z hd1.i (hd1.c _) rfl inlX4 tyX4 tyX4_ok nmX4 4 (by decide) wd_13_7 rfl rfl rfl (by show 4 < 10; decide) ((hd1.c _).trans (congrArg (fun z => Sum.inr (4, z)) (sp_Tr_4 _ _ _))) dX3_loadTrain_23 (fun H locs Z => ?_)
  rw [e_G_4] at Z
  refine lv_aload_n hx hb dX3_loadTrain_26 rfl (lv_at hl 1 rfl) ?_
  refine lv_aload_n hx hb dX3_loadTrain_27 rfl (lv_at hl 1 rfl) ?_
  refine mx_get (v := .int (G_4 d1 0)) (ci := 4) (C := RX4) (T := TX4) (N := 10) X Z hd1.i (hd1.c _) rfl inlX4 0 (by decide) wd_18_23 rfl dX3_loadTrain_28 ?_
  obtain ⟨G_5, e_G_5, hT⟩ := mx_nm hT
  refine mx_put (ci := 4) (C := RX4) (T := TX4) (N := 10) X Z hd1.i (hd1.c _) rfl inlX4 tyX4 tyX4_ok nmX4 5 (by decide) wd_18_16 rfl rfl rfl (by show 5 < 10; decide) ((hd1.c _).trans (congrArg (fun z => Sum.inr (4, z)) (sp_Tr_5 _ _ _))) dX3_loadTrain_31 (fun H locs Z => ?_)
  rw [e_G_5] at Z
  cases hT
  exact W.vret hx hb hr (fun t ht hW => mx_end Z t ht _) Z.2.2.2 dX3_loadTrain_34
/-! PeatRailway$State.moveTrain -/
def x3_moveTrain (c : Nat) (d1 : Nat) (G : mM) : Option mM :=
  (x3_placeBeyond c d1 G).bind fun q_1 =>
  (x3_segmentAt c q_1 G).bind fun q_2 =>
  mOpt q_2 (
    some (G)) fun o_3 =>
    (x3_placeBeyond c d1 G).bind fun q_5 =>
    mNm (up2 G d1 3 q_5) fun G_6 =>
    mNm (up2 G_6 d1 5 (((1 : Int32)) + ((G_6 o_3 2) / ((100 : Int32))))) fun G_7 =>
    some (G_7)
theorem hd3_moveTrain : yX3_moveTrain.cls = RX3 ∧ yX3_moveTrain.cls ≠ "java/lang/invoke/MethodHandle" ∧ yX3_moveTrain.cls ≠ "java/lang/invoke/VarHandle" ∧ (parseMethodDescriptor yX3_moveTrain.desc).map (fun d => d.parameters.length) = some 1 := by decide +kernel
set_option maxHeartbeats 4000000 in
set_option maxRecDepth 100000 in
theorem c3_moveTrain (l : Launch) (E : mE) (hJ : mJ E) {c : Nat} {d1 : Nat} (hc : mSt E c) (hd1 : mTr E d1) (G : mM) (q : mM) (hT : x3_moveTrain c d1 G = some q) : mMet l E yX3_moveTrain cX3_moveTrain 3 none 1 21 [.ref (mad E (c)), .ref (mad E (d1))] G (none) q := by
  refine Met.ofW (cc := cX3_moveTrain) (maxL := 3) (ret := none) (by decide) rfl ?_
  intro p e s m args below meth cd s₁ B hml hv
  obtain ⟨rfl, hP, hK, hS⟩ := hv
  have X := mx_entry (own := RX3) B hml hK hJ hS rfl
  have hx := X.1
  have hb := X.2.1
  have hown := X.2.2.2.1
  have hts := X.2.2.2.2.1
  have hr := B.returns
  have hlocks := B.notSynchronized
  have hR : 1 ≤ (headSpec (mWs yX3_moveTrain cX3_moveTrain 3 none) ({ frames := 1, cells := 0, slots := 0, locals := 21 })).room.frames ∧ 21 ≤ (headSpec (mWs yX3_moveTrain cX3_moveTrain 3 none) ({ frames := 1, cells := 0, slots := 0, locals := 21 })).room.locals := ⟨Nat.le_refl _, Nat.le_refl _⟩
  have Z : mZ E s.heap s.heap [] G := ⟨hP, va_S.rf⟩
  have hl := lv_entry ([.ref (mad E (c)), .ref (mad E (d1))]) (n := 3) (Nat.le_of_ble_eq_true rfl)
  rw [lg_entry_eq]
  generalize (lg_sl ([.ref (mad E (c)), .ref (mad E (d1))]) ++ List.replicate (3 - (lg_sl ([.ref (mad E (c)), .ref (mad E (d1))])).length) Slot.unset).toArray = ls at hl ⊢
  have hl : lv_has ls 3 [(0, .ref (mad E (c))), (1, .ref (mad E (d1)))] := hl
  unfold x3_moveTrain at hT
  refine lv_aload_n hx hb dX3_moveTrain_0 rfl (lv_at hl 0 rfl) ?_
  refine lv_aload_n hx hb dX3_moveTrain_1 rfl (lv_at hl 0 rfl) ?_
  refine lv_aload_n hx hb dX3_moveTrain_2 rfl (lv_at hl 1 rfl) ?_
  obtain ⟨q_1, h_q_1, hT⟩ := mx_bind hT
  refine mx_callV (As := [.ref (mad E (d1))]) (rest := [.ref (mad E (c))]) (st1 := [.int (q_1), .ref (mad E (c))]) (C := RX3) (T := TX3) (N := 11) (ci := 3) X Z hl.1 (c3_placeBeyond l E hJ hc hd1 _ _ h_q_1) wd_13_20 wd_13_21 wd_13_22 wd_1_16 wd_13_23 hd3_placeBeyond ⟨Nat.le_trans (by decide) hR.1, Nat.le_trans (by decide) hR.2⟩ ⟨Nat.zero_le _, Nat.zero_le _⟩ hc.i (hc.c _) rfl (Nat.le_of_ble_eq_true rfl) rfl rfl dX3_moveTrain_3 (fun H locs Z => ?_)
  obtain ⟨q_2, h_q_2, hT⟩ := mx_bind hT
  refine mx_callV (As := [.int (q_1)]) (rest := []) (st1 := [va_re (mad E) q_2]) (C := RX3) (T := TX3) (N := 11) (ci := 3) X Z hl.1 (c3_segmentAt l E hJ hc _ _ _ h_q_2) wd_6_4 wd_6_5 wd_6_6 wd_1_16 wd_6_7 hd3_segmentAt ⟨Nat.le_trans (by decide) hR.1, Nat.le_trans (by decide) hR.2⟩ ⟨Nat.zero_le _, Nat.zero_le _⟩ hc.i (hc.c _) rfl (Nat.le_of_ble_eq_true rfl) rfl rfl dX3_moveTrain_6 (fun H locs Z => ?_)
  have hk_4 := c3_segmentAt_k E hc _ _ _ h_q_2
  rcases q_2 with _ | o_3
  · replace hT := mx_on hT
    refine mx_tops (s2 := [.null]) rfl ?_
    refine lv_astore_nN (lv' := [(2, .null), (0, .ref (mad E (c))), (1, .ref (mad E (d1)))]) hx hb dX3_moveTrain_9 rfl hl (by decide) rfl (fun ls hl => ?_)
    refine lv_aload_nN hx hb dX3_moveTrain_10 rfl (lv_at hl 0 rfl) ?_
    refine lv_ifnullN (tgt := 36) hx hb dX3_moveTrain_11 (by decide) ?_
    cases hT
    exact W.vret hx hb hr (fun t ht hW => mx_end Z t ht _) Z.2.2.2 dX3_moveTrain_36
  · replace hT := mx_os hT
    refine mx_tops (s2 := [.ref (mad E o_3)]) rfl ?_
    refine lv_astore_n (lv' := [(2, .ref (mad E (o_3))), (0, .ref (mad E (c))), (1, .ref (mad E (d1)))]) hx hb dX3_moveTrain_9 rfl hl (by decide) rfl (fun ls hl => ?_)
    refine lv_aload_n hx hb dX3_moveTrain_10 rfl (lv_at hl 0 rfl) ?_
    refine lv_ifnull hx hb dX3_moveTrain_11 ?_
    refine lv_aload_n hx hb dX3_moveTrain_14 rfl (lv_at hl 2 rfl) ?_
    refine lv_aload_n hx hb dX3_moveTrain_15 rfl (lv_at hl 1 rfl) ?_
    refine lv_aload_n hx hb dX3_moveTrain_16 rfl (lv_at hl 2 rfl) ?_
    obtain ⟨q_5, h_q_5, hT⟩ := mx_bind hT
    refine mx_callV (As := [.ref (mad E (d1))]) (rest := [.ref (mad E (d1))]) (st1 := [.int (q_5), .ref (mad E (d1))]) (C := RX3) (T := TX3) (N := 11) (ci := 3) X Z hl.1 (c3_placeBeyond l E hJ hc hd1 _ _ h_q_5) wd_13_20 wd_13_21 wd_13_22 wd_1_16 wd_13_23 hd3_placeBeyond ⟨Nat.le_trans (by decide) hR.1, Nat.le_trans (by decide) hR.2⟩ ⟨Nat.zero_le _, Nat.zero_le _⟩ hc.i (hc.c _) rfl (Nat.le_of_ble_eq_true rfl) rfl rfl dX3_moveTrain_17 (fun H locs Z => ?_)
    obtain ⟨G_6, e_G_6, hT⟩ := mx_nm hT
    refine mx_put (ci := 4) (C := RX4) (T := TX4) (N := 10) X Z hd1.i (hd1.c _) rfl inlX4 tyX4 tyX4_ok nmX4 3 (by decide) wd_10_23 rfl rfl rfl (by show 3 < 10; decide) ((hd1.c _).trans (congrArg (fun z => Sum.inr (4, z)) (sp_Tr_3 _ _ _))) dX3_moveTrain_20 (fun H locs Z => ?_)
    rw [e_G_6] at Z
    refine lv_aload_n hx hb dX3_moveTrain_23 rfl (lv_at hl 2 rfl) ?_
    refine lv_iconst (v := (1 : Int32)) hx hb dX3_moveTrain_24 (by decide) ?_
    refine lv_aload_n hx hb dX3_moveTrain_25 rfl (lv_at hl 0 rfl) ?_
    refine mx_get (v := .int (G_6 o_3 2)) (ci := 2) (C := RX2) (T := TX2) (N := 6) X Z ((hk_4 o_3 rfl)).i (((hk_4 o_3 rfl)).c _) rfl inlX2 2 (by decide) wd_13_6 rfl dX3_moveTrain_26 ?_
    refine lv_bipush (v := (100 : Int32)) hx hb dX3_moveTrain_29 (by decide) ?_
    refine lv_idiv hx hb dX3_moveTrain_31 (by decide) ?_
    refine lv_iadd hx hb dX3_moveTrain_32 ?_
    obtain ⟨G_7, e_G_7, hT⟩ := mx_nm hT
    refine mx_put (ci := 4) (C := RX4) (T := TX4) (N := 10) X Z hd1.i (hd1.c _) rfl inlX4 tyX4 tyX4_ok nmX4 5 (by decide) wd_18_16 rfl rfl rfl (by show 5 < 10; decide) ((hd1.c _).trans (congrArg (fun z => Sum.inr (4, z)) (sp_Tr_5 _ _ _))) dX3_moveTrain_33 (fun H locs Z => ?_)
    rw [e_G_7] at Z
    cases hT
    exact W.vret hx hb hr (fun t ht hW => mx_end Z t ht _) Z.2.2.2 dX3_moveTrain_36
