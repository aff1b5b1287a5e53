/-! PeatRailwayLaw.tick -/
def xL_tick_L2 (y0 : Nat) (n0 : Nat) (y1 : Nat) (n1 : Nat) (y2 : Nat) (n2 : Nat) : Nat → Int32 → mM → Option (mM)
  | 0, _, _ => none
  | n + 1, w3, G =>
    mCk (mIn ((1 : Int32)) n0) <|
    if (G y0 (((1 : Int32)).toNatClampNeg)) ≤ w3 then
      some (G)
    else
      mCk (mIn ((4 : Int32)) n0) <|
      if (G y0 (((4 : Int32)).toNatClampNeg)) = ((2 : Int32)) then
        mCk (mIn ((((10 : Int32)) * w3) + ((9 : Int32))) n2) <|
        mNm (up2 G y2 (((((10 : Int32)) * w3) + ((9 : Int32))).toNatClampNeg) ((0 : Int32))) fun G_6 =>
        mNm (w3 + (1 : Int32)) fun v_7 =>
        xL_tick_L2 y0 n0 y1 n1 y2 n2 n v_7 G_6
      else
        mCk (mIn ((((10 : Int32)) * w3) + ((4 : Int32))) n2) <|
        if (G y2 (((((10 : Int32)) * w3) + ((4 : Int32))).toNatClampNeg)) = ((1 : Int32)) then
          mCk (mIn ((4 : Int32)) n0) <|
          if (G y0 (((4 : Int32)).toNatClampNeg)) = 0 then
            mCk (mIn ((((10 : Int32)) * w3) + ((9 : Int32))) n2) <|
            mNm (up2 G y2 (((((10 : Int32)) * w3) + ((9 : Int32))).toNatClampNeg) ((0 : Int32))) fun G_28 =>
            mNm (w3 + (1 : Int32)) fun v_29 =>
            xL_tick_L2 y0 n0 y1 n1 y2 n2 n v_29 G_28
          else
            mCk (mIn ((((10 : Int32)) * w3) + ((9 : Int32))) n2) <|
            mNm (up2 G y2 (((((10 : Int32)) * w3) + ((9 : Int32))).toNatClampNeg) ((1 : Int32))) fun G_24 =>
            mNm (w3 + (1 : Int32)) fun v_25 =>
            xL_tick_L2 y0 n0 y1 n1 y2 n2 n v_25 G_24
        else
          mCk (mIn ((4 : Int32)) n0) <|
          if (G y0 (((4 : Int32)).toNatClampNeg)) = 0 then
            mCk (mIn ((((10 : Int32)) * w3) + ((9 : Int32))) n2) <|
            mNm (up2 G y2 (((((10 : Int32)) * w3) + ((9 : Int32))).toNatClampNeg) ((1 : Int32))) fun G_18 =>
            mNm (w3 + (1 : Int32)) fun v_19 =>
            xL_tick_L2 y0 n0 y1 n1 y2 n2 n v_19 G_18
          else
            mCk (mIn ((((10 : Int32)) * w3) + ((9 : Int32))) n2) <|
            mNm (up2 G y2 (((((10 : Int32)) * w3) + ((9 : Int32))).toNatClampNeg) ((0 : Int32))) fun G_14 =>
            mNm (w3 + (1 : Int32)) fun v_15 =>
            xL_tick_L2 y0 n0 y1 n1 y2 n2 n v_15 G_14
def xL_tick_L77 (y0 : Nat) (n0 : Nat) (y1 : Nat) (n1 : Nat) (y2 : Nat) (n2 : Nat) (y3 : Int32) : Nat → Int32 → mM → Option (mM)
  | 0, _, _ => none
  | n + 1, w4, G =>
    mCk (mIn ((1 : Int32)) n0) <|
    if (G y0 (((1 : Int32)).toNatClampNeg)) ≤ w4 then
      some (G)
    else
      mCk (mIn ((((10 : Int32)) * w4) + ((9 : Int32))) n2) <|
      if (G y2 (((((10 : Int32)) * w4) + ((9 : Int32))).toNatClampNeg)) = y3 then
        (xL_turn w4 y0 n0 y1 n1 y2 n2 G).bind fun q_37 =>
        mNm (w4 + (1 : Int32)) fun v_38 =>
        xL_tick_L77 y0 n0 y1 n1 y2 n2 y3 n v_38 q_37
      else
        mNm (w4 + (1 : Int32)) fun v_36 =>
        xL_tick_L77 y0 n0 y1 n1 y2 n2 y3 n v_36 G
def xL_tick_L69 (y0 : Nat) (n0 : Nat) (y1 : Nat) (n1 : Nat) (y2 : Nat) (n2 : Nat) : Nat → Int32 → mM → Option (mM)
  | 0, _, _ => none
  | n + 1, w3, G =>
    if ((2 : Int32)) ≤ w3 then
      some (G)
    else
      (xL_tick_L77 y0 n0 y1 n1 y2 n2 w3 mFu ((0 : Int32)) G).bind fun q_39 =>
      mNm (w3 + (1 : Int32)) fun v_40 =>
      xL_tick_L69 y0 n0 y1 n1 y2 n2 n v_40 q_39
def xL_tick_L121 (y0 : Nat) (n0 : Nat) (y1 : Nat) (n1 : Nat) (y2 : Nat) (n2 : Nat) : Nat → Int32 → mM → Option (mM)
  | 0, _, _ => none
  | n + 1, w3, G =>
    mCk (mIn ((0 : Int32)) n0) <|
    if (G y0 (((0 : Int32)).toNatClampNeg)) ≤ w3 then
      some (G)
    else
      (xL_there w3 y0 n0 y2 n2 G).bind fun q_44 =>
      mNm (q_44 / ((10000 : Int32))) fun v_45 =>
      if v_45 ≤ 0 then
        mCk (mIn ((((3 : Int32)) * w3) + ((2 : Int32))) n1) <|
        mCk (mIn ((3 : Int32)) n0) <|
        mNm ((G y1 (((((3 : Int32)) * w3) + ((2 : Int32))).toNatClampNeg)) - (G y0 (((3 : Int32)).toNatClampNeg))) fun v_49 =>
        if 0 ≤ v_49 then
          if v_49 ≤ ((999 : Int32)) then
            mCk (mIn ((((3 : Int32)) * w3) + ((2 : Int32))) n1) <|
            mNm (up2 G y1 (((((3 : Int32)) * w3) + ((2 : Int32))).toNatClampNeg) v_49) fun G_53 =>
            mNm (w3 + (1 : Int32)) fun v_54 =>
            xL_tick_L121 y0 n0 y1 n1 y2 n2 n v_54 G_53
          else
            mCk (mIn ((((3 : Int32)) * w3) + ((2 : Int32))) n1) <|
            mNm (up2 G y1 (((((3 : Int32)) * w3) + ((2 : Int32))).toNatClampNeg) ((999 : Int32))) fun G_56 =>
            mNm (w3 + (1 : Int32)) fun v_57 =>
            xL_tick_L121 y0 n0 y1 n1 y2 n2 n v_57 G_56
        else
          mCk (mIn ((((3 : Int32)) * w3) + ((2 : Int32))) n1) <|
          mNm (up2 G y1 (((((3 : Int32)) * w3) + ((2 : Int32))).toNatClampNeg) ((0 : Int32))) fun G_59 =>
          mNm (w3 + (1 : Int32)) fun v_60 =>
          xL_tick_L121 y0 n0 y1 n1 y2 n2 n v_60 G_59
      else
        mCk (mIn ((((3 : Int32)) * w3) + ((2 : Int32))) n1) <|
        mCk (mIn (((3 : Int32)) * w3) n1) <|
        mNm ((G y1 (((((3 : Int32)) * w3) + ((2 : Int32))).toNatClampNeg)) + ((v_45 * (G y1 ((((3 : Int32)) * w3).toNatClampNeg))) / ((10 : Int32)))) fun v_63 =>
        if 0 ≤ v_63 then
          if v_63 ≤ ((999 : Int32)) then
            mCk (mIn ((((3 : Int32)) * w3) + ((2 : Int32))) n1) <|
            mNm (up2 G y1 (((((3 : Int32)) * w3) + ((2 : Int32))).toNatClampNeg) v_63) fun G_67 =>
            mNm (w3 + (1 : Int32)) fun v_68 =>
            xL_tick_L121 y0 n0 y1 n1 y2 n2 n v_68 G_67
          else
            mCk (mIn ((((3 : Int32)) * w3) + ((2 : Int32))) n1) <|
            mNm (up2 G y1 (((((3 : Int32)) * w3) + ((2 : Int32))).toNatClampNeg) ((999 : Int32))) fun G_70 =>
            mNm (w3 + (1 : Int32)) fun v_71 =>
            xL_tick_L121 y0 n0 y1 n1 y2 n2 n v_71 G_70
        else
          mCk (mIn ((((3 : Int32)) * w3) + ((2 : Int32))) n1) <|
          mNm (up2 G y1 (((((3 : Int32)) * w3) + ((2 : Int32))).toNatClampNeg) ((0 : Int32))) fun G_73 =>
          mNm (w3 + (1 : Int32)) fun v_74 =>
          xL_tick_L121 y0 n0 y1 n1 y2 n2 n v_74 G_73
def xL_tick (a0 : Nat) (n0 : Nat) (a1 : Nat) (n1 : Nat) (a2 : Nat) (n2 : Nat) (G : mM) : Option mM :=
  (xL_tick_L2 a0 n0 a1 n1 a2 n2 mFu ((0 : Int32)) G).bind fun q_30 =>
  (xL_tick_L69 a0 n0 a1 n1 a2 n2 mFu ((0 : Int32)) q_30).bind fun q_41 =>
  (xL_tick_L121 a0 n0 a1 n1 a2 n2 mFu ((0 : Int32)) q_41).bind fun q_75 =>
  mCk (mIn ((9 : Int32)) n0) <|
  mCk (mIn ((9 : Int32)) n0) <|
  mNm (up2 q_75 a0 (((9 : Int32)).toNatClampNeg) ((q_75 a0 (((9 : Int32)).toNatClampNeg)) + ((1 : Int32)))) fun G_78 =>
  some (G_78)
theorem hdL_tick : yL_tick.cls ≠ "java/lang/invoke/MethodHandle" ∧ yL_tick.cls ≠ "java/lang/invoke/VarHandle" ∧ (parseMethodDescriptor yL_tick.desc).map (fun d => d.parameters.length) = some 3 := by decide +kernel
set_option maxHeartbeats 4000000 in
set_option maxRecDepth 100000 in
theorem kL_tick_2 {p : Program} {l : Launch} {e : Env} {R : Room} {s : State} {m : MethodId} {args : Array Value} {below : List Frame} {meth : Method} {cd : Code} {Q : State → Prop} {E : mE} (X : mX p s m args cd cL_tick 6 RL E) (hR : 5 ≤ R.frames ∧ 125 ≤ R.locals) (hJ : mJ E) {y0 : Nat} {n0 : Nat} {y1 : Nat} {n1 : Nat} {y2 : Nat} {n2 : Nat} (hy0 : mAi E y0 1 n0) (hy1 : mAi E y1 1 n1) (hy2 : mAi E y2 1 n2) : ∀ (n : Nat) (w3 : Int32) (G : mM) (H : Heap) (locs : List Loc) (ls : Array Slot) (r : mM), xL_tick_L2 y0 n0 y1 n1 y2 n2 n w3 G = some r → mZ E s.heap H locs G → lv_has ls 6 [(0, .ref (mad E (y0))), (1, .ref (mad E (y1))), (2, .ref (mad E (y2))), (3, .int (w3))] → (∀ (H : Heap) (locs : List Loc) (ls : Array Slot), mZ E s.heap H locs r → lv_has ls 6 [(0, .ref (mad E (y0))), (1, .ref (mad E (y1))), (2, .ref (mad E (y2)))] → W p l e R s m args below meth cd H locs 0 0 Q (F0 m 67 ls [])) → W p l e R s m args below meth cd H locs 0 0 Q (F0 m 2 ls []) := by
  have hx := X.1
  have hb := X.2.1
  have hown := X.2.2.2.1
  have hts := X.2.2.2.2.1
  intro n
  induction n with
  | zero =>
    intro w3 G H locs ls r hT
    rw [xL_tick_L2] at hT
    cases hT
  | succ n ih =>
    intro w3 G H locs ls r hT Z hl k0
    rw [xL_tick_L2] at hT
    refine lv_iload_n hx hb dL_tick_2 rfl (lv_at hl 3 rfl) ?_
    refine lv_aload_n hx hb dL_tick_3 rfl (lv_at hl 0 rfl) ?_
    refine lv_iconst (v := (1 : Int32)) hx hb dL_tick_4 (by decide) ?_
    obtain ⟨h_1, hT⟩ := mx_chk hT
    refine mx_iald X Z hy0 h_1 dL_tick_5 ?_
    refine mx_tops (s2 := [.int (G y0 (((1 : Int32)).toNatClampNeg)), .int (w3)]) rfl ?_
    refine lv_icmp_ge (tgt := 67) hx hb dL_tick_6 (by decide) (fun h_2 => ?_) (fun h_2 => ?_)
    · replace hT := mx_t hT h_2
      cases hT
      exact k0 _ _ _ Z (lv_sub hl [0, 1, 2] rfl)
    · replace hT := mx_f hT h_2
      refine lv_aload_n hx hb dL_tick_9 rfl (lv_at hl 2 rfl) ?_
      refine lv_bipush (v := (10 : Int32)) hx hb dL_tick_10 (by decide) ?_
      refine lv_iload_n hx hb dL_tick_12 rfl (lv_at hl 3 rfl) ?_
      refine lv_imul hx hb dL_tick_13 ?_
      refine lv_bipush (v := (9 : Int32)) hx hb dL_tick_14 (by decide) ?_
      refine lv_iadd hx hb dL_tick_16 ?_
      refine lv_aload_n hx hb dL_tick_17 rfl (lv_at hl 0 rfl) ?_
      refine lv_iconst (v := (4 : Int32)) hx hb dL_tick_18 (by decide) ?_
      obtain ⟨h_3, hT⟩ := mx_chk hT
      refine mx_iald X Z hy0 h_3 dL_tick_19 ?_
      refine mx_tops (s2 := [.int (G y0 (((4 : Int32)).toNatClampNeg)), .int ((((10 : Int32)) * w3) + ((9 : Int32))), .ref (mad E (y2))]) rfl ?_
      refine lv_iconst (v := (2 : Int32)) hx hb dL_tick_20 (by decide) ?_
      refine lv_icmp_eq (tgt := 55) hx hb dL_tick_21 (by decide) (fun h_4 => ?_) (fun h_4 => ?_)
      · replace hT := mx_t hT h_4
        refine lv_iconst (v := (0 : Int32)) hx hb dL_tick_55 (by decide) ?_
        refine lv_goto (tgt := 60) hx hb dL_tick_56 (by decide) ?_
        obtain ⟨h_5, hT⟩ := mx_chk hT
        obtain ⟨G_6, e_G_6, hT⟩ := mx_nm hT
        refine mx_iast X Z hy2 h_5 dL_tick_60 (fun H locs Z => ?_)
        rw [e_G_6] at Z
        obtain ⟨v_7, e_v_7, hT⟩ := mx_nm hT
        refine lv_iinc (v := v_7) (lv' := [(3, .int (v_7)), (0, .ref (mad E (y0))), (1, .ref (mad E (y1))), (2, .ref (mad E (y2)))]) hx hb dL_tick_61 hl (k := 3) rfl (by rw [← e_v_7]; rfl) (by decide) rfl (fun ls hl => ?_)
        refine lv_goto (tgt := 2) hx hb dL_tick_64 (by decide) ?_
        exact ih _ _ _ _ _ _ hT Z (lv_sub hl [1, 2, 3, 0] rfl) k0
      · replace hT := mx_f hT h_4
        refine lv_aload_n hx hb dL_tick_24 rfl (lv_at hl 2 rfl) ?_
        refine lv_bipush (v := (10 : Int32)) hx hb dL_tick_25 (by decide) ?_
        refine lv_iload_n hx hb dL_tick_27 rfl (lv_at hl 3 rfl) ?_
        refine lv_imul hx hb dL_tick_28 ?_
        refine lv_iconst (v := (4 : Int32)) hx hb dL_tick_29 (by decide) ?_
        refine lv_iadd hx hb dL_tick_30 ?_
        obtain ⟨h_8, hT⟩ := mx_chk hT
        refine mx_iald X Z hy2 h_8 dL_tick_31 ?_
        refine lv_iconst (v := (1 : Int32)) hx hb dL_tick_32 (by decide) ?_
        refine lv_icmp_ne (tgt := 40) hx hb dL_tick_33 (by decide) (fun h_9 => ?_) (fun h_9 => ?_)
        · replace hT := mx_f hT h_9
          refine lv_iconst (v := (0 : Int32)) hx hb dL_tick_40 (by decide) ?_
          refine lv_aload_n hx hb dL_tick_41 rfl (lv_at hl 0 rfl) ?_
          refine lv_iconst (v := (4 : Int32)) hx hb dL_tick_42 (by decide) ?_
          obtain ⟨h_10, hT⟩ := mx_chk hT
          refine mx_iald X Z hy0 h_10 dL_tick_43 ?_
          refine mx_tops (s2 := [.int (G y0 (((4 : Int32)).toNatClampNeg)), .int ((0 : Int32)), .int ((((10 : Int32)) * w3) + ((9 : Int32))), .ref (mad E (y2))]) rfl ?_
          refine lv_if_ne (tgt := 51) hx hb dL_tick_44 (by decide) (fun h_11 => ?_) (fun h_11 => ?_)
          · replace hT := mx_f hT h_11
            refine lv_iconst (v := (0 : Int32)) hx hb dL_tick_51 (by decide) ?_
            refine lv_icmp_ne (tgt := 59) hx hb dL_tick_52 (by decide) (fun h_12 => ?_) (fun h_12 => ?_)
            · exact absurd h_12 (by decide)
            · refine lv_iconst (v := (0 : Int32)) hx hb dL_tick_55 (by decide) ?_
              refine lv_goto (tgt := 60) hx hb dL_tick_56 (by decide) ?_
              obtain ⟨h_13, hT⟩ := mx_chk hT
              obtain ⟨G_14, e_G_14, hT⟩ := mx_nm hT
              refine mx_iast X Z hy2 h_13 dL_tick_60 (fun H locs Z => ?_)
              rw [e_G_14] at Z
              obtain ⟨v_15, e_v_15, hT⟩ := mx_nm hT
              refine lv_iinc (v := v_15) (lv' := [(3, .int (v_15)), (0, .ref (mad E (y0))), (1, .ref (mad E (y1))), (2, .ref (mad E (y2)))]) hx hb dL_tick_61 hl (k := 3) rfl (by rw [← e_v_15]; rfl) (by decide) rfl (fun ls hl => ?_)
              refine lv_goto (tgt := 2) hx hb dL_tick_64 (by decide) ?_
              exact ih _ _ _ _ _ _ hT Z (lv_sub hl [1, 2, 3, 0] rfl) k0
          · replace hT := mx_t hT h_11
            refine lv_iconst (v := (1 : Int32)) hx hb dL_tick_47 (by decide) ?_
            refine lv_goto (tgt := 52) hx hb dL_tick_48 (by decide) ?_
            refine lv_icmp_ne (tgt := 59) hx hb dL_tick_52 (by decide) (fun h_16 => ?_) (fun h_16 => ?_)
            · refine lv_iconst (v := (1 : Int32)) hx hb dL_tick_59 (by decide) ?_
              obtain ⟨h_17, hT⟩ := mx_chk hT
              obtain ⟨G_18, e_G_18, hT⟩ := mx_nm hT
              refine mx_iast X Z hy2 h_17 dL_tick_60 (fun H locs Z => ?_)
              rw [e_G_18] at Z
              obtain ⟨v_19, e_v_19, hT⟩ := mx_nm hT
              refine lv_iinc (v := v_19) (lv' := [(3, .int (v_19)), (0, .ref (mad E (y0))), (1, .ref (mad E (y1))), (2, .ref (mad E (y2)))]) hx hb dL_tick_61 hl (k := 3) rfl (by rw [← e_v_19]; rfl) (by decide) rfl (fun ls hl => ?_)
              refine lv_goto (tgt := 2) hx hb dL_tick_64 (by decide) ?_
              exact ih _ _ _ _ _ _ hT Z (lv_sub hl [1, 2, 3, 0] rfl) k0
            · exact absurd h_16 (by decide)
        · replace hT := mx_t hT h_9
          refine lv_iconst (v := (1 : Int32)) hx hb dL_tick_36 (by decide) ?_
          refine lv_goto (tgt := 41) hx hb dL_tick_37 (by decide) ?_
          refine lv_aload_n hx hb dL_tick_41 rfl (lv_at hl 0 rfl) ?_
          refine lv_iconst (v := (4 : Int32)) hx hb dL_tick_42 (by decide) ?_
          obtain ⟨h_20, hT⟩ := mx_chk hT
          refine mx_iald X Z hy0 h_20 dL_tick_43 ?_
          refine mx_tops (s2 := [.int (G y0 (((4 : Int32)).toNatClampNeg)), .int ((1 : Int32)), .int ((((10 : Int32)) * w3) + ((9 : Int32))), .ref (mad E (y2))]) rfl ?_
          refine lv_if_ne (tgt := 51) hx hb dL_tick_44 (by decide) (fun h_21 => ?_) (fun h_21 => ?_)
          · replace hT := mx_f hT h_21
            refine lv_iconst (v := (0 : Int32)) hx hb dL_tick_51 (by decide) ?_
            refine lv_icmp_ne (tgt := 59) hx hb dL_tick_52 (by decide) (fun h_22 => ?_) (fun h_22 => ?_)
            · refine lv_iconst (v := (1 : Int32)) hx hb dL_tick_59 (by decide) ?_
              obtain ⟨h_23, hT⟩ := mx_chk hT
              obtain ⟨G_24, e_G_24, hT⟩ := mx_nm hT
              refine mx_iast X Z hy2 h_23 dL_tick_60 (fun H locs Z => ?_)
              rw [e_G_24] at Z
              obtain ⟨v_25, e_v_25, hT⟩ := mx_nm hT
              refine lv_iinc (v := v_25) (lv' := [(3, .int (v_25)), (0, .ref (mad E (y0))), (1, .ref (mad E (y1))), (2, .ref (mad E (y2)))]) hx hb dL_tick_61 hl (k := 3) rfl (by rw [← e_v_25]; rfl) (by decide) rfl (fun ls hl => ?_)
              refine lv_goto (tgt := 2) hx hb dL_tick_64 (by decide) ?_
              exact ih _ _ _ _ _ _ hT Z (lv_sub hl [1, 2, 3, 0] rfl) k0
            · exact absurd h_22 (by decide)
          · replace hT := mx_t hT h_21
            refine lv_iconst (v := (1 : Int32)) hx hb dL_tick_47 (by decide) ?_
            refine lv_goto (tgt := 52) hx hb dL_tick_48 (by decide) ?_
            refine lv_icmp_ne (tgt := 59) hx hb dL_tick_52 (by decide) (fun h_26 => ?_) (fun h_26 => ?_)
            · exact absurd h_26 (by decide)
            · refine lv_iconst (v := (0 : Int32)) hx hb dL_tick_55 (by decide) ?_
              refine lv_goto (tgt := 60) hx hb dL_tick_56 (by decide) ?_
              obtain ⟨h_27, hT⟩ := mx_chk hT
              obtain ⟨G_28, e_G_28, hT⟩ := mx_nm hT
              refine mx_iast X Z hy2 h_27 dL_tick_60 (fun H locs Z => ?_)
              rw [e_G_28] at Z
              obtain ⟨v_29, e_v_29, hT⟩ := mx_nm hT
              refine lv_iinc (v := v_29) (lv' := [(3, .int (v_29)), (0, .ref (mad E (y0))), (1, .ref (mad E (y1))), (2, .ref (mad E (y2)))]) hx hb dL_tick_61 hl (k := 3) rfl (by rw [← e_v_29]; rfl) (by decide) rfl (fun ls hl => ?_)
              refine lv_goto (tgt := 2) hx hb dL_tick_64 (by decide) ?_
              exact ih _ _ _ _ _ _ hT Z (lv_sub hl [1, 2, 3, 0] rfl) k0
set_option maxHeartbeats 4000000 in
set_option maxRecDepth 100000 in
theorem kL_tick_77 {p : Program} {l : Launch} {e : Env} {R : Room} {s : State} {m : MethodId} {args : Array Value} {below : List Frame} {meth : Method} {cd : Code} {Q : State → Prop} {E : mE} (X : mX p s m args cd cL_tick 6 RL E) (hR : 5 ≤ R.frames ∧ 125 ≤ R.locals) (hJ : mJ E) {y0 : Nat} {n0 : Nat} {y1 : Nat} {n1 : Nat} {y2 : Nat} {n2 : Nat} (hy0 : mAi E y0 1 n0) (hy1 : mAi E y1 1 n1) (hy2 : mAi E y2 1 n2) (y3 : Int32) : ∀ (n : Nat) (w4 : Int32) (G : mM) (H : Heap) (locs : List Loc) (ls : Array Slot) (r : mM), xL_tick_L77 y0 n0 y1 n1 y2 n2 y3 n w4 G = some r → mZ E s.heap H locs G → lv_has ls 6 [(0, .ref (mad E (y0))), (1, .ref (mad E (y1))), (2, .ref (mad E (y2))), (3, .int (y3)), (4, .int (w4))] → (∀ (H : Heap) (locs : List Loc) (ls : Array Slot), mZ E s.heap H locs r → lv_has ls 6 [(0, .ref (mad E (y0))), (1, .ref (mad E (y1))), (2, .ref (mad E (y2))), (3, .int (y3))] → W p l e R s m args below meth cd H locs 0 0 Q (F0 m 113 ls [])) → W p l e R s m args below meth cd H locs 0 0 Q (F0 m 77 ls []) := by
  have hx := X.1
  have hb := X.2.1
  have hown := X.2.2.2.1
  have hts := X.2.2.2.2.1
  intro n
  induction n with
  | zero =>
    intro w4 G H locs ls r hT
    rw [xL_tick_L77] at hT
    cases hT
  | succ n ih =>
    intro w4 G H locs ls r hT Z hl k0
    rw [xL_tick_L77] at hT
    refine lv_iload hx hb dL_tick_77 (lv_at hl 4 rfl) ?_
    refine lv_aload_n hx hb dL_tick_79 rfl (lv_at hl 0 rfl) ?_
    refine lv_iconst (v := (1 : Int32)) hx hb dL_tick_80 (by decide) ?_
    obtain ⟨h_32, hT⟩ := mx_chk hT
    refine mx_iald X Z hy0 h_32 dL_tick_81 ?_
    refine mx_tops (s2 := [.int (G y0 (((1 : Int32)).toNatClampNeg)), .int (w4)]) rfl ?_
    refine lv_icmp_ge (tgt := 113) hx hb dL_tick_82 (by decide) (fun h_33 => ?_) (fun h_33 => ?_)
    · replace hT := mx_t hT h_33
      cases hT
      exact k0 _ _ _ Z (lv_sub hl [0, 1, 2, 3] rfl)
    · replace hT := mx_f hT h_33
      refine lv_aload_n hx hb dL_tick_85 rfl (lv_at hl 2 rfl) ?_
      refine lv_bipush (v := (10 : Int32)) hx hb dL_tick_86 (by decide) ?_
      refine lv_iload hx hb dL_tick_88 (lv_at hl 4 rfl) ?_
      refine lv_imul hx hb dL_tick_90 ?_
      refine lv_bipush (v := (9 : Int32)) hx hb dL_tick_91 (by decide) ?_
      refine lv_iadd hx hb dL_tick_93 ?_
      obtain ⟨h_34, hT⟩ := mx_chk hT
      refine mx_iald X Z hy2 h_34 dL_tick_94 ?_
      refine lv_iload_n hx hb dL_tick_95 rfl (lv_at hl 3 rfl) ?_
      refine lv_icmp_ne (tgt := 107) hx hb dL_tick_96 (by decide) (fun h_35 => ?_) (fun h_35 => ?_)
      · replace hT := mx_f hT h_35
        obtain ⟨v_36, e_v_36, hT⟩ := mx_nm hT
        refine lv_iinc (v := v_36) (lv' := [(4, .int (v_36)), (0, .ref (mad E (y0))), (1, .ref (mad E (y1))), (2, .ref (mad E (y2))), (3, .int (y3))]) hx hb dL_tick_107 hl (k := 4) rfl (by rw [← e_v_36]; rfl) (by decide) rfl (fun ls hl => ?_)
        refine lv_goto (tgt := 77) hx hb dL_tick_110 (by decide) ?_
        exact ih _ _ _ _ _ _ hT Z (lv_sub hl [1, 2, 3, 4, 0] rfl) k0
      · replace hT := mx_t hT h_35
        refine lv_iload hx hb dL_tick_99 (lv_at hl 4 rfl) ?_
        refine lv_aload_n hx hb dL_tick_101 rfl (lv_at hl 0 rfl) ?_
        refine lv_aload_n hx hb dL_tick_102 rfl (lv_at hl 1 rfl) ?_
        refine lv_aload_n hx hb dL_tick_103 rfl (lv_at hl 2 rfl) ?_
        obtain ⟨q_37, h_q_37, hT⟩ := mx_bind hT
        refine mx_callS (As := [.int (w4), .ref (mad E (y0)), .ref (mad E (y1)), .ref (mad E (y2))]) (rest := []) (st1 := []) X Z hl.1 (mL_turn l E hJ hy0 hy1 hy2 _ _ _ h_q_37) wd_17_12 wd_17_13 wd_10_7 wd_17_14 hdL_turn ⟨Nat.le_trans (by decide) hR.1, Nat.le_trans (by decide) hR.2⟩ ⟨Nat.zero_le _, Nat.zero_le _⟩ (Nat.le_of_ble_eq_true rfl) rfl rfl dL_tick_104 (fun H locs Z => ?_)
        obtain ⟨v_38, e_v_38, hT⟩ := mx_nm hT
        refine lv_iinc (v := v_38) (lv' := [(4, .int (v_38)), (0, .ref (mad E (y0))), (1, .ref (mad E (y1))), (2, .ref (mad E (y2))), (3, .int (y3))]) hx hb dL_tick_107 hl (k := 4) rfl (by rw [← e_v_38]; rfl) (by decide) rfl (fun ls hl => ?_)
        refine lv_goto (tgt := 77) hx hb dL_tick_110 (by decide) ?_
        exact ih _ _ _ _ _ _ hT Z (lv_sub hl [1, 2, 3, 4, 0] rfl) k0
set_option maxHeartbeats 4000000 in
set_option maxRecDepth 100000 in
theorem kL_tick_69 {p : Program} {l : Launch} {e : Env} {R : Room} {s : State} {m : MethodId} {args : Array Value} {below : List Frame} {meth : Method} {cd : Code} {Q : State → Prop} {E : mE} (X : mX p s m args cd cL_tick 6 RL E) (hR : 5 ≤ R.frames ∧ 125 ≤ R.locals) (hJ : mJ E) {y0 : Nat} {n0 : Nat} {y1 : Nat} {n1 : Nat} {y2 : Nat} {n2 : Nat} (hy0 : mAi E y0 1 n0) (hy1 : mAi E y1 1 n1) (hy2 : mAi E y2 1 n2) : ∀ (n : Nat) (w3 : Int32) (G : mM) (H : Heap) (locs : List Loc) (ls : Array Slot) (r : mM), xL_tick_L69 y0 n0 y1 n1 y2 n2 n w3 G = some r → mZ E s.heap H locs G → lv_has ls 6 [(0, .ref (mad E (y0))), (1, .ref (mad E (y1))), (2, .ref (mad E (y2))), (3, .int (w3))] → (∀ (H : Heap) (locs : List Loc) (ls : Array Slot), mZ E s.heap H locs r → lv_has ls 6 [(0, .ref (mad E (y0))), (1, .ref (mad E (y1))), (2, .ref (mad E (y2)))] → W p l e R s m args below meth cd H locs 0 0 Q (F0 m 119 ls [])) → W p l e R s m args below meth cd H locs 0 0 Q (F0 m 69 ls []) := by
  have hx := X.1
  have hb := X.2.1
  have hown := X.2.2.2.1
  have hts := X.2.2.2.2.1
  intro n
  induction n with
  | zero =>
    intro w3 G H locs ls r hT
    rw [xL_tick_L69] at hT
    cases hT
  | succ n ih =>
    intro w3 G H locs ls r hT Z hl k0
    rw [xL_tick_L69] at hT
    refine lv_iload_n hx hb dL_tick_69 rfl (lv_at hl 3 rfl) ?_
    refine lv_iconst (v := (2 : Int32)) hx hb dL_tick_70 (by decide) ?_
    refine lv_icmp_ge (tgt := 119) hx hb dL_tick_71 (by decide) (fun h_31 => ?_) (fun h_31 => ?_)
    · replace hT := mx_t hT h_31
      cases hT
      exact k0 _ _ _ Z (lv_sub hl [0, 1, 2] rfl)
    · replace hT := mx_f hT h_31
      refine lv_iconst (v := (0 : Int32)) hx hb dL_tick_74 (by decide) ?_
      refine lv_istore (lv' := [(4, .int ((0 : Int32))), (0, .ref (mad E (y0))), (1, .ref (mad E (y1))), (2, .ref (mad E (y2))), (3, .int (w3))]) hx hb dL_tick_75 hl (by decide) rfl (fun ls hl => ?_)
      obtain ⟨q_39, h_q_39, hT⟩ := mx_bind hT
      refine kL_tick_77 X hR hJ hy0 hy1 hy2 _ _ _ _ _ _ _ _ h_q_39 Z (lv_sub (l' := [(0, .ref (mad E (y0))), (1, .ref (mad E (y1))), (2, .ref (mad E (y2))), (3, .int (w3)), (4, .int ((0 : Int32)))]) hl [1, 2, 3, 4, 0] rfl) (fun H locs ls Z hl => ?_)
      · obtain ⟨v_40, e_v_40, hT⟩ := mx_nm hT
        refine lv_iinc (v := v_40) (lv' := [(3, .int (v_40)), (0, .ref (mad E (y0))), (1, .ref (mad E (y1))), (2, .ref (mad E (y2)))]) hx hb dL_tick_113 hl (k := 3) rfl (by rw [← e_v_40]; rfl) (by decide) rfl (fun ls hl => ?_)
        refine lv_goto (tgt := 69) hx hb dL_tick_116 (by decide) ?_
        exact ih _ _ _ _ _ _ hT Z (lv_sub hl [1, 2, 3, 0] rfl) k0
set_option maxHeartbeats 4000000 in
set_option maxRecDepth 100000 in
theorem kL_tick_121 {p : Program} {l : Launch} {e : Env} {R : Room} {s : State} {m : MethodId} {args : Array Value} {below : List Frame} {meth : Method} {cd : Code} {Q : State → Prop} {E : mE} (X : mX p s m args cd cL_tick 6 RL E) (hR : 5 ≤ R.frames ∧ 125 ≤ R.locals) (hJ : mJ E) {y0 : Nat} {n0 : Nat} {y1 : Nat} {n1 : Nat} {y2 : Nat} {n2 : Nat} (hy0 : mAi E y0 1 n0) (hy1 : mAi E y1 1 n1) (hy2 : mAi E y2 1 n2) : ∀ (n : Nat) (w3 : Int32) (G : mM) (H : Heap) (locs : List Loc) (ls : Array Slot) (r : mM), xL_tick_L121 y0 n0 y1 n1 y2 n2 n w3 G = some r → mZ E s.heap H locs G → lv_has ls 6 [(0, .ref (mad E (y0))), (1, .ref (mad E (y1))), (2, .ref (mad E (y2))), (3, .int (w3))] → (∀ (H : Heap) (locs : List Loc) (ls : Array Slot), mZ E s.heap H locs r → lv_has ls 6 [(0, .ref (mad E (y0))), (1, .ref (mad E (y1))), (2, .ref (mad E (y2)))] → W p l e R s m args below meth cd H locs 0 0 Q (F0 m 218 ls [])) → W p l e R s m args below meth cd H locs 0 0 Q (F0 m 121 ls []) := by
  have hx := X.1
  have hb := X.2.1
  have hown := X.2.2.2.1
  have hts := X.2.2.2.2.1
  intro n
  induction n with
  | zero =>
    intro w3 G H locs ls r hT
    rw [xL_tick_L121] at hT
    cases hT
  | succ n ih =>
    intro w3 G H locs ls r hT Z hl k0
    rw [xL_tick_L121] at hT
    refine lv_iload_n hx hb dL_tick_121 rfl (lv_at hl 3 rfl) ?_
    refine lv_aload_n hx hb dL_tick_122 rfl (lv_at hl 0 rfl) ?_
    refine lv_iconst (v := (0 : Int32)) hx hb dL_tick_123 (by decide) ?_
    obtain ⟨h_42, hT⟩ := mx_chk hT
    refine mx_iald X Z hy0 h_42 dL_tick_124 ?_
    refine mx_tops (s2 := [.int (G y0 (((0 : Int32)).toNatClampNeg)), .int (w3)]) rfl ?_
    refine lv_icmp_ge (tgt := 218) hx hb dL_tick_125 (by decide) (fun h_43 => ?_) (fun h_43 => ?_)
    · replace hT := mx_t hT h_43
      cases hT
      exact k0 _ _ _ Z (lv_sub hl [0, 1, 2] rfl)
    · replace hT := mx_f hT h_43
      refine lv_iload_n hx hb dL_tick_128 rfl (lv_at hl 3 rfl) ?_
      refine lv_aload_n hx hb dL_tick_129 rfl (lv_at hl 0 rfl) ?_
      refine lv_aload_n hx hb dL_tick_130 rfl (lv_at hl 2 rfl) ?_
      obtain ⟨q_44, h_q_44, hT⟩ := mx_bind hT
      refine mx_callS (As := [.int (w3), .ref (mad E (y0)), .ref (mad E (y2))]) (rest := []) (st1 := [.int (q_44)]) X Z hl.1 (mL_there l E hJ hy0 hy2 _ _ _ h_q_44) wd_11_22 wd_11_23 wd_10_7 wd_12_0 hdL_there ⟨Nat.le_trans (by decide) hR.1, Nat.le_trans (by decide) hR.2⟩ ⟨Nat.zero_le _, Nat.zero_le _⟩ (Nat.le_of_ble_eq_true rfl) rfl rfl dL_tick_131 (fun H locs Z => ?_)
      refine lv_sipush (v := (10000 : Int32)) hx hb dL_tick_134 (by decide) ?_
      refine lv_idiv hx hb dL_tick_137 (by decide) ?_
      obtain ⟨v_45, e_v_45, hT⟩ := mx_nm hT
      refine mx_tops (congrArg (fun z => (.int (z) :: [] : List Value)) e_v_45) ?_
      refine lv_istore (lv' := [(4, .int (v_45)), (0, .ref (mad E (y0))), (1, .ref (mad E (y1))), (2, .ref (mad E (y2))), (3, .int (w3))]) hx hb dL_tick_138 hl (by decide) rfl (fun ls hl => ?_)
      refine lv_iload hx hb dL_tick_140 (lv_at hl 0 rfl) ?_
      refine lv_if_le (tgt := 167) hx hb dL_tick_142 (by decide) (fun h_46 => ?_) (fun h_46 => ?_)
      · replace hT := mx_t hT h_46
        refine lv_aload_n hx hb dL_tick_167 rfl (lv_at hl 2 rfl) ?_
        refine lv_iconst (v := (3 : Int32)) hx hb dL_tick_168 (by decide) ?_
        refine lv_iload_n hx hb dL_tick_169 rfl (lv_at hl 4 rfl) ?_
        refine lv_imul hx hb dL_tick_170 ?_
        refine lv_iconst (v := (2 : Int32)) hx hb dL_tick_171 (by decide) ?_
        refine lv_iadd hx hb dL_tick_172 ?_
        obtain ⟨h_47, hT⟩ := mx_chk hT
        refine mx_iald X Z hy1 h_47 dL_tick_173 ?_
        refine lv_aload_n hx hb dL_tick_174 rfl (lv_at hl 1 rfl) ?_
        refine lv_iconst (v := (3 : Int32)) hx hb dL_tick_175 (by decide) ?_
        obtain ⟨h_48, hT⟩ := mx_chk hT
        refine mx_iald X Z hy0 h_48 dL_tick_176 ?_
        refine mx_tops (s2 := [.int (G y0 (((3 : Int32)).toNatClampNeg)), .int (G y1 (((((3 : Int32)) * w3) + ((2 : Int32))).toNatClampNeg))]) rfl ?_
        refine lv_isub hx hb dL_tick_177 ?_
        obtain ⟨v_49, e_v_49, hT⟩ := mx_nm hT
        refine mx_tops (congrArg (fun z => (.int (z) :: [] : List Value)) e_v_49) ?_
        refine lv_istore (lv' := [(5, .int (v_49)), (4, .int (v_45)), (0, .ref (mad E (y0))), (1, .ref (mad E (y1))), (2, .ref (mad E (y2))), (3, .int (w3))]) hx hb dL_tick_178 hl (by decide) rfl (fun ls hl => ?_)
        refine lv_aload_n hx hb dL_tick_180 rfl (lv_at hl 3 rfl) ?_
        refine lv_iconst (v := (3 : Int32)) hx hb dL_tick_181 (by decide) ?_
        refine lv_iload_n hx hb dL_tick_182 rfl (lv_at hl 5 rfl) ?_
        refine lv_imul hx hb dL_tick_183 ?_
        refine lv_iconst (v := (2 : Int32)) hx hb dL_tick_184 (by decide) ?_
        refine lv_iadd hx hb dL_tick_185 ?_
        refine lv_iload hx hb dL_tick_186 (lv_at hl 0 rfl) ?_
        refine lv_if_ge (tgt := 195) hx hb dL_tick_188 (by decide) (fun h_50 => ?_) (fun h_50 => ?_)
        · replace hT := mx_t hT h_50
          refine lv_iload hx hb dL_tick_195 (lv_at hl 0 rfl) ?_
          refine lv_sipush (v := (999 : Int32)) hx hb dL_tick_197 (by decide) ?_
          refine lv_icmp_le (tgt := 209) hx hb dL_tick_200 (by decide) (fun h_51 => ?_) (fun h_51 => ?_)
          · replace hT := mx_t hT h_51
            refine lv_iload hx hb dL_tick_209 (lv_at hl 0 rfl) ?_
            obtain ⟨h_52, hT⟩ := mx_chk hT
            obtain ⟨G_53, e_G_53, hT⟩ := mx_nm hT
            refine mx_iast X Z hy1 h_52 dL_tick_211 (fun H locs Z => ?_)
            rw [e_G_53] at Z
            obtain ⟨v_54, e_v_54, hT⟩ := mx_nm hT
            refine lv_iinc (v := v_54) (lv' := [(3, .int (v_54)), (5, .int (v_49)), (4, .int (v_45)), (0, .ref (mad E (y0))), (1, .ref (mad E (y1))), (2, .ref (mad E (y2)))]) hx hb dL_tick_212 hl (k := 5) rfl (by rw [← e_v_54]; rfl) (by decide) rfl (fun ls hl => ?_)
            refine lv_goto (tgt := 121) hx hb dL_tick_215 (by decide) ?_
            exact ih _ _ _ _ _ _ hT Z (lv_sub hl [3, 4, 5, 0] rfl) k0
          · replace hT := mx_f hT h_51
            refine lv_sipush (v := (999 : Int32)) hx hb dL_tick_203 (by decide) ?_
            refine lv_goto (tgt := 211) hx hb dL_tick_206 (by decide) ?_
            obtain ⟨h_55, hT⟩ := mx_chk hT
            obtain ⟨G_56, e_G_56, hT⟩ := mx_nm hT
            refine mx_iast X Z hy1 h_55 dL_tick_211 (fun H locs Z => ?_)
            rw [e_G_56] at Z
            obtain ⟨v_57, e_v_57, hT⟩ := mx_nm hT
            refine lv_iinc (v := v_57) (lv' := [(3, .int (v_57)), (5, .int (v_49)), (4, .int (v_45)), (0, .ref (mad E (y0))), (1, .ref (mad E (y1))), (2, .ref (mad E (y2)))]) hx hb dL_tick_212 hl (k := 5) rfl (by rw [← e_v_57]; rfl) (by decide) rfl (fun ls hl => ?_)
            refine lv_goto (tgt := 121) hx hb dL_tick_215 (by decide) ?_
            exact ih _ _ _ _ _ _ hT Z (lv_sub hl [3, 4, 5, 0] rfl) k0
        · replace hT := mx_f hT h_50
          refine lv_iconst (v := (0 : Int32)) hx hb dL_tick_191 (by decide) ?_
          refine lv_goto (tgt := 211) hx hb dL_tick_192 (by decide) ?_
          obtain ⟨h_58, hT⟩ := mx_chk hT
          obtain ⟨G_59, e_G_59, hT⟩ := mx_nm hT
          refine mx_iast X Z hy1 h_58 dL_tick_211 (fun H locs Z => ?_)
          rw [e_G_59] at Z
          obtain ⟨v_60, e_v_60, hT⟩ := mx_nm hT
          refine lv_iinc (v := v_60) (lv' := [(3, .int (v_60)), (5, .int (v_49)), (4, .int (v_45)), (0, .ref (mad E (y0))), (1, .ref (mad E (y1))), (2, .ref (mad E (y2)))]) hx hb dL_tick_212 hl (k := 5) rfl (by rw [← e_v_60]; rfl) (by decide) rfl (fun ls hl => ?_)
          refine lv_goto (tgt := 121) hx hb dL_tick_215 (by decide) ?_
          exact ih _ _ _ _ _ _ hT Z (lv_sub hl [3, 4, 5, 0] rfl) k0
      · replace hT := mx_f hT h_46
        refine lv_aload_n hx hb dL_tick_145 rfl (lv_at hl 2 rfl) ?_
        refine lv_iconst (v := (3 : Int32)) hx hb dL_tick_146 (by decide) ?_
        refine lv_iload_n hx hb dL_tick_147 rfl (lv_at hl 4 rfl) ?_
        refine lv_imul hx hb dL_tick_148 ?_
        refine lv_iconst (v := (2 : Int32)) hx hb dL_tick_149 (by decide) ?_
        refine lv_iadd hx hb dL_tick_150 ?_
        obtain ⟨h_61, hT⟩ := mx_chk hT
        refine mx_iald X Z hy1 h_61 dL_tick_151 ?_
        refine lv_iload hx hb dL_tick_152 (lv_at hl 0 rfl) ?_
        refine lv_aload_n hx hb dL_tick_154 rfl (lv_at hl 2 rfl) ?_
        refine lv_iconst (v := (3 : Int32)) hx hb dL_tick_155 (by decide) ?_
        refine lv_iload_n hx hb dL_tick_156 rfl (lv_at hl 4 rfl) ?_
        refine lv_imul hx hb dL_tick_157 ?_
        obtain ⟨h_62, hT⟩ := mx_chk hT
        refine mx_iald X Z hy1 h_62 dL_tick_158 ?_
        refine lv_imul hx hb dL_tick_159 ?_
        refine lv_bipush (v := (10 : Int32)) hx hb dL_tick_160 (by decide) ?_
        refine lv_idiv hx hb dL_tick_162 (by decide) ?_
        refine lv_iadd hx hb dL_tick_163 ?_
        refine lv_goto (tgt := 178) hx hb dL_tick_164 (by decide) ?_
        obtain ⟨v_63, e_v_63, hT⟩ := mx_nm hT
        refine mx_tops (congrArg (fun z => (.int (z) :: [] : List Value)) e_v_63) ?_
        refine lv_istore (lv' := [(5, .int (v_63)), (4, .int (v_45)), (0, .ref (mad E (y0))), (1, .ref (mad E (y1))), (2, .ref (mad E (y2))), (3, .int (w3))]) hx hb dL_tick_178 hl (by decide) rfl (fun ls hl => ?_)
        refine lv_aload_n hx hb dL_tick_180 rfl (lv_at hl 3 rfl) ?_
        refine lv_iconst (v := (3 : Int32)) hx hb dL_tick_181 (by decide) ?_
        refine lv_iload_n hx hb dL_tick_182 rfl (lv_at hl 5 rfl) ?_
        refine lv_imul hx hb dL_tick_183 ?_
        refine lv_iconst (v := (2 : Int32)) hx hb dL_tick_184 (by decide) ?_
        refine lv_iadd hx hb dL_tick_185 ?_
        refine lv_iload hx hb dL_tick_186 (lv_at hl 0 rfl) ?_
        refine lv_if_ge (tgt := 195) hx hb dL_tick_188 (by decide) (fun h_64 => ?_) (fun h_64 => ?_)
        · replace hT := mx_t hT h_64
          refine lv_iload hx hb dL_tick_195 (lv_at hl 0 rfl) ?_
          refine lv_sipush (v := (999 : Int32)) hx hb dL_tick_197 (by decide) ?_
          refine lv_icmp_le (tgt := 209) hx hb dL_tick_200 (by decide) (fun h_65 => ?_) (fun h_65 => ?_)
          · replace hT := mx_t hT h_65
            refine lv_iload hx hb dL_tick_209 (lv_at hl 0 rfl) ?_
            obtain ⟨h_66, hT⟩ := mx_chk hT
            obtain ⟨G_67, e_G_67, hT⟩ := mx_nm hT
            refine mx_iast X Z hy1 h_66 dL_tick_211 (fun H locs Z => ?_)
            rw [e_G_67] at Z
            obtain ⟨v_68, e_v_68, hT⟩ := mx_nm hT
            refine lv_iinc (v := v_68) (lv' := [(3, .int (v_68)), (5, .int (v_63)), (4, .int (v_45)), (0, .ref (mad E (y0))), (1, .ref (mad E (y1))), (2, .ref (mad E (y2)))]) hx hb dL_tick_212 hl (k := 5) rfl (by rw [← e_v_68]; rfl) (by decide) rfl (fun ls hl => ?_)
            refine lv_goto (tgt := 121) hx hb dL_tick_215 (by decide) ?_
            exact ih _ _ _ _ _ _ hT Z (lv_sub hl [3, 4, 5, 0] rfl) k0
          · replace hT := mx_f hT h_65
            refine lv_sipush (v := (999 : Int32)) hx hb dL_tick_203 (by decide) ?_
            refine lv_goto (tgt := 211) hx hb dL_tick_206 (by decide) ?_
            obtain ⟨h_69, hT⟩ := mx_chk hT
            obtain ⟨G_70, e_G_70, hT⟩ := mx_nm hT
            refine mx_iast X Z hy1 h_69 dL_tick_211 (fun H locs Z => ?_)
            rw [e_G_70] at Z
            obtain ⟨v_71, e_v_71, hT⟩ := mx_nm hT
            refine lv_iinc (v := v_71) (lv' := [(3, .int (v_71)), (5, .int (v_63)), (4, .int (v_45)), (0, .ref (mad E (y0))), (1, .ref (mad E (y1))), (2, .ref (mad E (y2)))]) hx hb dL_tick_212 hl (k := 5) rfl (by rw [← e_v_71]; rfl) (by decide) rfl (fun ls hl => ?_)
            refine lv_goto (tgt := 121) hx hb dL_tick_215 (by decide) ?_
            exact ih _ _ _ _ _ _ hT Z (lv_sub hl [3, 4, 5, 0] rfl) k0
        · replace hT := mx_f hT h_64
          refine lv_iconst (v := (0 : Int32)) hx hb dL_tick_191 (by decide) ?_
          refine lv_goto (tgt := 211) hx hb dL_tick_192 (by decide) ?_
          obtain ⟨h_72, hT⟩ := mx_chk hT
          obtain ⟨G_73, e_G_73, hT⟩ := mx_nm hT
          refine mx_iast X Z hy1 h_72 dL_tick_211 (fun H locs Z => ?_)
          rw [e_G_73] at Z
          obtain ⟨v_74, e_v_74, hT⟩ := mx_nm hT
          refine lv_iinc (v := v_74) (lv' := [(3, .int (v_74)), (5, .int (v_63)), (4, .int (v_45)), (0, .ref (mad E (y0))), (1, .ref (mad E (y1))), (2, .ref (mad E (y2)))]) hx hb dL_tick_212 hl (k := 5) rfl (by rw [← e_v_74]; rfl) (by decide) rfl (fun ls hl => ?_)
          refine lv_goto (tgt := 121) hx hb dL_tick_215 (by decide) ?_
          exact ih _ _ _ _ _ _ hT Z (lv_sub hl [3, 4, 5, 0] rfl) k0
set_option maxHeartbeats 4000000 in
set_option maxRecDepth 100000 in
theorem mL_tick (l : Launch) (E : mE) (hJ : mJ E) {a0 : Nat} {n0 : Nat} {a1 : Nat} {n1 : Nat} {a2 : Nat} {n2 : Nat} (ha0 : mAi E a0 1 n0) (ha1 : mAi E a1 1 n1) (ha2 : mAi E a2 1 n2) (G : mM) (q : mM) (hT : xL_tick a0 n0 a1 n1 a2 n2 G = some q) : mMet l E yL_tick cL_tick 6 none 5 125 [.ref (mad E (a0)), .ref (mad E (a1)), .ref (mad E (a2))] G (none) q := by
  refine Met.ofW (cc := cL_tick) (maxL := 6) (ret := none) (by decide) rfl ?_
  intro p e s m args below meth cd s₁ B hml hv
  obtain ⟨rfl, hP, hK, hS⟩ := hv
  have X := mx_entry (own := RL) B hml hK hJ hS rfl
  have hx := X.1
  have hb := X.2.1
  have hown := X.2.2.2.1
  have hts := X.2.2.2.2.1
  have hr := B.returns
  have hlocks := B.notSynchronized
  have hR : 5 ≤ (headSpec (mWs yL_tick cL_tick 6 none) ({ frames := 5, cells := 0, slots := 0, locals := 125 })).room.frames ∧ 125 ≤ (headSpec (mWs yL_tick cL_tick 6 none) ({ frames := 5, cells := 0, slots := 0, locals := 125 })).room.locals := ⟨Nat.le_refl _, Nat.le_refl _⟩
  have Z : mZ E s.heap s.heap [] G := ⟨hP, va_S.rf⟩
  have hl := lv_entry ([.ref (mad E (a0)), .ref (mad E (a1)), .ref (mad E (a2))]) (n := 6) (Nat.le_of_ble_eq_true rfl)
  rw [lg_entry_eq]
  generalize (lg_sl ([.ref (mad E (a0)), .ref (mad E (a1)), .ref (mad E (a2))]) ++ List.replicate (6 - (lg_sl ([.ref (mad E (a0)), .ref (mad E (a1)), .ref (mad E (a2))])).length) Slot.unset).toArray = ls at hl ⊢
  have hl : lv_has ls 6 [(0, .ref (mad E (a0))), (1, .ref (mad E (a1))), (2, .ref (mad E (a2)))] := hl
  unfold xL_tick at hT
  refine lv_iconst (v := (0 : Int32)) hx hb dL_tick_0 (by decide) ?_
  refine lv_istore_n (lv' := [(3, .int ((0 : Int32))), (0, .ref (mad E (a0))), (1, .ref (mad E (a1))), (2, .ref (mad E (a2)))]) hx hb dL_tick_1 rfl hl (by decide) rfl (fun ls hl => ?_)
  obtain ⟨q_30, h_q_30, hT⟩ := mx_bind hT
  refine kL_tick_2 X hR hJ ha0 ha1 ha2  _ _ _ _ _ _ _ h_q_30 Z (lv_sub (l' := [(0, .ref (mad E (a0))), (1, .ref (mad E (a1))), (2, .ref (mad E (a2))), (3, .int ((0 : Int32)))]) hl [1, 2, 3, 0] rfl) (fun H locs ls Z hl => ?_)
  · refine lv_iconst (v := (0 : Int32)) hx hb dL_tick_67 (by decide) ?_
    refine lv_istore_n (lv' := [(3, .int ((0 : Int32))), (0, .ref (mad E (a0))), (1, .ref (mad E (a1))), (2, .ref (mad E (a2)))]) hx hb dL_tick_68 rfl hl (by decide) rfl (fun ls hl => ?_)
    obtain ⟨q_41, h_q_41, hT⟩ := mx_bind hT
    refine kL_tick_69 X hR hJ ha0 ha1 ha2  _ _ _ _ _ _ _ h_q_41 Z (lv_sub (l' := [(0, .ref (mad E (a0))), (1, .ref (mad E (a1))), (2, .ref (mad E (a2))), (3, .int ((0 : Int32)))]) hl [1, 2, 3, 0] rfl) (fun H locs ls Z hl => ?_)
    · refine lv_iconst (v := (0 : Int32)) hx hb dL_tick_119 (by decide) ?_
      refine lv_istore_n (lv' := [(3, .int ((0 : Int32))), (0, .ref (mad E (a0))), (1, .ref (mad E (a1))), (2, .ref (mad E (a2)))]) hx hb dL_tick_120 rfl hl (by decide) rfl (fun ls hl => ?_)
      obtain ⟨q_75, h_q_75, hT⟩ := mx_bind hT
      refine kL_tick_121 X hR hJ ha0 ha1 ha2  _ _ _ _ _ _ _ h_q_75 Z (lv_sub (l' := [(0, .ref (mad E (a0))), (1, .ref (mad E (a1))), (2, .ref (mad E (a2))), (3, .int ((0 : Int32)))]) hl [1, 2, 3, 0] rfl) (fun H locs ls Z hl => ?_)
      · refine lv_aload_n hx hb dL_tick_218 rfl (lv_at hl 0 rfl) ?_
        refine lv_bipush (v := (9 : Int32)) hx hb dL_tick_219 (by decide) ?_
        refine lv_dup2_11 hx hb dL_tick_221 rfl rfl ?_
        obtain ⟨h_76, hT⟩ := mx_chk hT
        refine mx_iald X Z ha0 h_76 dL_tick_222 ?_
        refine mx_tops (s2 := [.int (q_75 a0 (((9 : Int32)).toNatClampNeg)), .int ((9 : Int32)), .ref (mad E (a0))]) rfl ?_
        refine lv_iconst (v := (1 : Int32)) hx hb dL_tick_223 (by decide) ?_
        refine lv_iadd hx hb dL_tick_224 ?_
        obtain ⟨h_77, hT⟩ := mx_chk hT
        obtain ⟨G_78, e_G_78, hT⟩ := mx_nm hT
        refine mx_iast X Z ha0 h_77 dL_tick_225 (fun H locs Z => ?_)
        replace Z : mZ E s.heap H locs (up2 q_75 a0 (((9 : Int32)).toNatClampNeg) ((q_75 a0 (((9 : Int32)).toNatClampNeg)) + ((1 : Int32)))) := Z
        rw [e_G_78] at Z
        cases hT
        exact W.vret hx hb hr (fun t ht hW => mx_end Z t ht _) Z.2.2.2 dL_tick_226
/-! PeatRailwayLaw.sunk -/
def xL_sunk_L4 (y0 : Nat) (n0 : Nat) (y1 : Nat) (n1 : Nat) : Nat → Int32 → Int32 → mM → Option (Int32)
  | 0, _, _, _ => none
  | n + 1, w2, w3, G =>
    mCk (mIn ((0 : Int32)) n0) <|
    if (G y0 (((0 : Int32)).toNatClampNeg)) ≤ w3 then
      some (w2)
    else
      mCk (mIn ((((3 : Int32)) * w3) + ((2 : Int32))) n1) <|
      if (G y1 (((((3 : Int32)) * w3) + ((2 : Int32))).toNatClampNeg)) ≤ w2 then
        mNm (w3 + (1 : Int32)) fun v_5 =>
        xL_sunk_L4 y0 n0 y1 n1 n w2 v_5 G
      else
        mCk (mIn ((((3 : Int32)) * w3) + ((2 : Int32))) n1) <|
        mNm (G y1 (((((3 : Int32)) * w3) + ((2 : Int32))).toNatClampNeg)) fun v_7 =>
        mNm (w3 + (1 : Int32)) fun v_8 =>
        xL_sunk_L4 y0 n0 y1 n1 n v_7 v_8 G
def xL_sunk (a0 : Nat) (n0 : Nat) (a1 : Nat) (n1 : Nat) (G : mM) : Option Int32 :=
  (xL_sunk_L4 a0 n0 a1 n1 mFu ((0 : Int32)) ((0 : Int32)) G).bind fun q_9 =>
  some (q_9)
theorem hdL_sunk : yL_sunk.cls ≠ "java/lang/invoke/MethodHandle" ∧ yL_sunk.cls ≠ "java/lang/invoke/VarHandle" ∧ (parseMethodDescriptor yL_sunk.desc).map (fun d => d.parameters.length) = some 2 := by decide +kernel
set_option maxHeartbeats 4000000 in
set_option maxRecDepth 100000 in
theorem kL_sunk_4 {p : Program} {l : Launch} {e : Env} {R : Room} {s : State} {m : MethodId} {args : Array Value} {below : List Frame} {meth : Method} {cd : Code} {Q : State → Prop} {E : mE} (X : mX p s m args cd cL_sunk 4 RL E) (hR : 0 ≤ R.frames ∧ 0 ≤ R.locals) (hJ : mJ E) {y0 : Nat} {n0 : Nat} {y1 : Nat} {n1 : Nat} (hy0 : mAi E y0 1 n0) (hy1 : mAi E y1 1 n1) : ∀ (n : Nat) (w2 : Int32) (w3 : Int32) (G : mM) (H : Heap) (locs : List Loc) (ls : Array Slot) (r : Int32), xL_sunk_L4 y0 n0 y1 n1 n w2 w3 G = some r → mZ E s.heap H locs G → lv_has ls 4 [(0, .ref (mad E (y0))), (1, .ref (mad E (y1))), (2, .int (w2)), (3, .int (w3))] → (∀ (H : Heap) (locs : List Loc) (ls : Array Slot), mZ E s.heap H locs G → lv_has ls 4 [(0, .ref (mad E (y0))), (1, .ref (mad E (y1))), (2, .int (r))] → W p l e R s m args below meth cd H locs 0 0 Q (F0 m 40 ls [])) → W p l e R s m args below meth cd H locs 0 0 Q (F0 m 4 ls []) := by
  have hx := X.1
  have hb := X.2.1
  have hown := X.2.2.2.1
  have hts := X.2.2.2.2.1
  intro n
  induction n with
  | zero =>
    intro w2 w3 G H locs ls r hT
    rw [xL_sunk_L4] at hT
    cases hT
  | succ n ih =>
    intro w2 w3 G H locs ls r hT Z hl k0
    rw [xL_sunk_L4] at hT
    refine lv_iload_n hx hb dL_sunk_4 rfl (lv_at hl 3 rfl) ?_
    refine lv_aload_n hx hb dL_sunk_5 rfl (lv_at hl 0 rfl) ?_
    refine lv_iconst (v := (0 : Int32)) hx hb dL_sunk_6 (by decide) ?_
    obtain ⟨h_1, hT⟩ := mx_chk hT
    refine mx_iald X Z hy0 h_1 dL_sunk_7 ?_
    refine mx_tops (s2 := [.int (G y0 (((0 : Int32)).toNatClampNeg)), .int (w3)]) rfl ?_
    refine lv_icmp_ge (tgt := 40) hx hb dL_sunk_8 (by decide) (fun h_2 => ?_) (fun h_2 => ?_)
    · replace hT := mx_t hT h_2
      cases hT
      exact k0 _ _ _ Z (lv_sub hl [0, 1, 2] rfl)
    · replace hT := mx_f hT h_2
      refine lv_aload_n hx hb dL_sunk_11 rfl (lv_at hl 1 rfl) ?_
      refine lv_iconst (v := (3 : Int32)) hx hb dL_sunk_12 (by decide) ?_
      refine lv_iload_n hx hb dL_sunk_13 rfl (lv_at hl 3 rfl) ?_
      refine lv_imul hx hb dL_sunk_14 ?_
      refine lv_iconst (v := (2 : Int32)) hx hb dL_sunk_15 (by decide) ?_
      refine lv_iadd hx hb dL_sunk_16 ?_
      obtain ⟨h_3, hT⟩ := mx_chk hT
      refine mx_iald X Z hy1 h_3 dL_sunk_17 ?_
      refine lv_iload_n hx hb dL_sunk_18 rfl (lv_at hl 2 rfl) ?_
      refine lv_icmp_le (tgt := 32) hx hb dL_sunk_19 (by decide) (fun h_4 => ?_) (fun h_4 => ?_)
      · replace hT := mx_t hT h_4
        refine lv_iload_n hx hb dL_sunk_32 rfl (lv_at hl 2 rfl) ?_
        refine lv_istore_n (lv' := [(2, .int (w2)), (0, .ref (mad E (y0))), (1, .ref (mad E (y1))), (3, .int (w3))]) hx hb dL_sunk_33 rfl hl (by decide) rfl (fun ls hl => ?_)
        obtain ⟨v_5, e_v_5, hT⟩ := mx_nm hT
        refine lv_iinc (v := v_5) (lv' := [(3, .int (v_5)), (2, .int (w2)), (0, .ref (mad E (y0))), (1, .ref (mad E (y1)))]) hx hb dL_sunk_34 hl (k := 3) rfl (by rw [← e_v_5]; rfl) (by decide) rfl (fun ls hl => ?_)
        refine lv_goto (tgt := 4) hx hb dL_sunk_37 (by decide) ?_
        exact ih _ _ _ _ _ _ _ hT Z (lv_sub hl [2, 3, 1, 0] rfl) k0
      · replace hT := mx_f hT h_4
        refine lv_aload_n hx hb dL_sunk_22 rfl (lv_at hl 1 rfl) ?_
        refine lv_iconst (v := (3 : Int32)) hx hb dL_sunk_23 (by decide) ?_
        refine lv_iload_n hx hb dL_sunk_24 rfl (lv_at hl 3 rfl) ?_
        refine lv_imul hx hb dL_sunk_25 ?_
        refine lv_iconst (v := (2 : Int32)) hx hb dL_sunk_26 (by decide) ?_
        refine lv_iadd hx hb dL_sunk_27 ?_
        obtain ⟨h_6, hT⟩ := mx_chk hT
        refine mx_iald X Z hy1 h_6 dL_sunk_28 ?_
        refine lv_goto (tgt := 33) hx hb dL_sunk_29 (by decide) ?_
        obtain ⟨v_7, e_v_7, hT⟩ := mx_nm hT
        refine mx_tops (congrArg (fun z => (.int (z) :: [] : List Value)) e_v_7) ?_
        refine lv_istore_n (lv' := [(2, .int (v_7)), (0, .ref (mad E (y0))), (1, .ref (mad E (y1))), (3, .int (w3))]) hx hb dL_sunk_33 rfl hl (by decide) rfl (fun ls hl => ?_)
        obtain ⟨v_8, e_v_8, hT⟩ := mx_nm hT
        refine lv_iinc (v := v_8) (lv' := [(3, .int (v_8)), (2, .int (v_7)), (0, .ref (mad E (y0))), (1, .ref (mad E (y1)))]) hx hb dL_sunk_34 hl (k := 3) rfl (by rw [← e_v_8]; rfl) (by decide) rfl (fun ls hl => ?_)
        refine lv_goto (tgt := 4) hx hb dL_sunk_37 (by decide) ?_
        exact ih _ _ _ _ _ _ _ hT Z (lv_sub hl [2, 3, 1, 0] rfl) k0
set_option maxHeartbeats 4000000 in
set_option maxRecDepth 100000 in
theorem mL_sunk (l : Launch) (E : mE) (hJ : mJ E) {a0 : Nat} {n0 : Nat} {a1 : Nat} {n1 : Nat} (ha0 : mAi E a0 1 n0) (ha1 : mAi E a1 1 n1) (G : mM) (q : Int32) (hT : xL_sunk a0 n0 a1 n1 G = some q) : mMet l E yL_sunk cL_sunk 4 (some .int) 0 0 [.ref (mad E (a0)), .ref (mad E (a1))] G (some (.int q)) G := by
  refine Met.ofW (cc := cL_sunk) (maxL := 4) (ret := (some .int)) (by decide) rfl ?_
  intro p e s m args below meth cd s₁ B hml hv
  obtain ⟨rfl, hP, hK, hS⟩ := hv
  have X := mx_entry (own := RL) B hml hK hJ hS rfl
  have hx := X.1
  have hb := X.2.1
  have hown := X.2.2.2.1
  have hts := X.2.2.2.2.1
  have hr := B.returns
  have hlocks := B.notSynchronized
  have hR : 0 ≤ (headSpec (mWs yL_sunk cL_sunk 4 (some .int)) ({ frames := 0, cells := 0, slots := 0, locals := 0 })).room.frames ∧ 0 ≤ (headSpec (mWs yL_sunk cL_sunk 4 (some .int)) ({ frames := 0, cells := 0, slots := 0, locals := 0 })).room.locals := ⟨Nat.le_refl _, Nat.le_refl _⟩
  have Z : mZ E s.heap s.heap [] G := ⟨hP, va_S.rf⟩
  have hl := lv_entry ([.ref (mad E (a0)), .ref (mad E (a1))]) (n := 4) (Nat.le_of_ble_eq_true rfl)
  rw [lg_entry_eq]
  generalize (lg_sl ([.ref (mad E (a0)), .ref (mad E (a1))]) ++ List.replicate (4 - (lg_sl ([.ref (mad E (a0)), .ref (mad E (a1))])).length) Slot.unset).toArray = ls at hl ⊢
  have hl : lv_has ls 4 [(0, .ref (mad E (a0))), (1, .ref (mad E (a1)))] := hl
  unfold xL_sunk at hT
  refine lv_iconst (v := (0 : Int32)) hx hb dL_sunk_0 (by decide) ?_
  refine lv_istore_n (lv' := [(2, .int ((0 : Int32))), (0, .ref (mad E (a0))), (1, .ref (mad E (a1)))]) hx hb dL_sunk_1 rfl hl (by decide) rfl (fun ls hl => ?_)
  refine lv_iconst (v := (0 : Int32)) hx hb dL_sunk_2 (by decide) ?_
  refine lv_istore_n (lv' := [(3, .int ((0 : Int32))), (2, .int ((0 : Int32))), (0, .ref (mad E (a0))), (1, .ref (mad E (a1)))]) hx hb dL_sunk_3 rfl hl (by decide) rfl (fun ls hl => ?_)
  obtain ⟨q_9, h_q_9, hT⟩ := mx_bind hT
  refine kL_sunk_4 X hR hJ ha0 ha1  _ _ _ _ _ _ _ _ h_q_9 Z (lv_sub (l' := [(0, .ref (mad E (a0))), (1, .ref (mad E (a1))), (2, .int ((0 : Int32))), (3, .int ((0 : Int32)))]) hl [2, 3, 1, 0] rfl) (fun H locs ls Z hl => ?_)
  · refine lv_iload_n hx hb dL_sunk_40 rfl (lv_at hl 2 rfl) ?_
    cases hT
    exact W.iret hx hb hr (fun t ht hW => mx_end Z t ht _) Z.2.2.2 dL_sunk_41
/-! PeatRailwayLaw.sum -/
def xL_sum_L5 (y0 : Int32) (y1 : Nat) (n1 : Nat) (y2 : Nat) (n2 : Nat) : Nat → Int32 → Int32 → mM → Option (Int32)
  | 0, _, _, _ => none
  | n + 1, w3, w4, G =>
    mCk (mIn ((1 : Int32)) n1) <|
    if (G y1 (((1 : Int32)).toNatClampNeg)) ≤ w4 then
      some (w3)
    else
      mCk (mIn ((((10 : Int32)) * w4) + y0) n2) <|
      mNm (w3 + (G y2 (((((10 : Int32)) * w4) + y0).toNatClampNeg))) fun v_4 =>
      mNm (w4 + (1 : Int32)) fun v_5 =>
      xL_sum_L5 y0 y1 n1 y2 n2 n v_4 v_5 G
def xL_sum (x0 : Int32) (a1 : Nat) (n1 : Nat) (a2 : Nat) (n2 : Nat) (G : mM) : Option Int32 :=
  (xL_sum_L5 x0 a1 n1 a2 n2 mFu ((0 : Int32)) ((0 : Int32)) G).bind fun q_6 =>
  some (q_6)
theorem hdL_sum : yL_sum.cls ≠ "java/lang/invoke/MethodHandle" ∧ yL_sum.cls ≠ "java/lang/invoke/VarHandle" ∧ (parseMethodDescriptor yL_sum.desc).map (fun d => d.parameters.length) = some 3 := by decide +kernel
set_option maxHeartbeats 4000000 in
set_option maxRecDepth 100000 in
theorem kL_sum_5 {p : Program} {l : Launch} {e : Env} {R : Room} {s : State} {m : MethodId} {args : Array Value} {below : List Frame} {meth : Method} {cd : Code} {Q : State → Prop} {E : mE} (X : mX p s m args cd cL_sum 5 RL E) (hR : 0 ≤ R.frames ∧ 0 ≤ R.locals) (hJ : mJ E) {y1 : Nat} {n1 : Nat} {y2 : Nat} {n2 : Nat} (hy1 : mAi E y1 1 n1) (hy2 : mAi E y2 1 n2) (y0 : Int32) : ∀ (n : Nat) (w3 : Int32) (w4 : Int32) (G : mM) (H : Heap) (locs : List Loc) (ls : Array Slot) (r : Int32), xL_sum_L5 y0 y1 n1 y2 n2 n w3 w4 G = some r → mZ E s.heap H locs G → lv_has ls 5 [(0, .int (y0)), (1, .ref (mad E (y1))), (2, .ref (mad E (y2))), (3, .int (w3)), (4, .int (w4))] → (∀ (H : Heap) (locs : List Loc) (ls : Array Slot), mZ E s.heap H locs G → lv_has ls 5 [(0, .int (y0)), (1, .ref (mad E (y1))), (2, .ref (mad E (y2))), (3, .int (r))] → W p l e R s m args below meth cd H locs 0 0 Q (F0 m 31 ls [])) → W p l e R s m args below meth cd H locs 0 0 Q (F0 m 5 ls []) := by
  have hx := X.1
  have hb := X.2.1
  have hown := X.2.2.2.1
  have hts := X.2.2.2.2.1
  intro n
  induction n with
  | zero =>
    intro w3 w4 G H locs ls r hT
    rw [xL_sum_L5] at hT
    cases hT
  | succ n ih =>
    intro w3 w4 G H locs ls r hT Z hl k0
    rw [xL_sum_L5] at hT
    refine lv_iload hx hb dL_sum_5 (lv_at hl 4 rfl) ?_
    refine lv_aload_n hx hb dL_sum_7 rfl (lv_at hl 1 rfl) ?_
    refine lv_iconst (v := (1 : Int32)) hx hb dL_sum_8 (by decide) ?_
    obtain ⟨h_1, hT⟩ := mx_chk hT
    refine mx_iald X Z hy1 h_1 dL_sum_9 ?_
    refine mx_tops (s2 := [.int (G y1 (((1 : Int32)).toNatClampNeg)), .int (w4)]) rfl ?_
    refine lv_icmp_ge (tgt := 31) hx hb dL_sum_10 (by decide) (fun h_2 => ?_) (fun h_2 => ?_)
    · replace hT := mx_t hT h_2
      cases hT
      exact k0 _ _ _ Z (lv_sub hl [0, 1, 2, 3] rfl)
    · replace hT := mx_f hT h_2
      refine lv_iload_n hx hb dL_sum_13 rfl (lv_at hl 3 rfl) ?_
      refine lv_aload_n hx hb dL_sum_14 rfl (lv_at hl 2 rfl) ?_
      refine lv_bipush (v := (10 : Int32)) hx hb dL_sum_15 (by decide) ?_
      refine lv_iload hx hb dL_sum_17 (lv_at hl 4 rfl) ?_
      refine lv_imul hx hb dL_sum_19 ?_
      refine lv_iload_n hx hb dL_sum_20 rfl (lv_at hl 0 rfl) ?_
      refine lv_iadd hx hb dL_sum_21 ?_
      obtain ⟨h_3, hT⟩ := mx_chk hT
      refine mx_iald X Z hy2 h_3 dL_sum_22 ?_
      refine lv_iadd hx hb dL_sum_23 ?_
      obtain ⟨v_4, e_v_4, hT⟩ := mx_nm hT
      refine mx_tops (congrArg (fun z => (.int (z) :: [] : List Value)) e_v_4) ?_
      refine lv_istore_n (lv' := [(3, .int (v_4)), (0, .int (y0)), (1, .ref (mad E (y1))), (2, .ref (mad E (y2))), (4, .int (w4))]) hx hb dL_sum_24 rfl hl (by decide) rfl (fun ls hl => ?_)
      obtain ⟨v_5, e_v_5, hT⟩ := mx_nm hT
      refine lv_iinc (v := v_5) (lv' := [(4, .int (v_5)), (3, .int (v_4)), (0, .int (y0)), (1, .ref (mad E (y1))), (2, .ref (mad E (y2)))]) hx hb dL_sum_25 hl (k := 4) rfl (by rw [← e_v_5]; rfl) (by decide) rfl (fun ls hl => ?_)
      refine lv_goto (tgt := 5) hx hb dL_sum_28 (by decide) ?_
      exact ih _ _ _ _ _ _ _ hT Z (lv_sub hl [2, 3, 4, 1, 0] rfl) k0
set_option maxHeartbeats 4000000 in
set_option maxRecDepth 100000 in
theorem mL_sum (l : Launch) (E : mE) (hJ : mJ E) {a1 : Nat} {n1 : Nat} {a2 : Nat} {n2 : Nat} (ha1 : mAi E a1 1 n1) (ha2 : mAi E a2 1 n2) (x0 : Int32) (G : mM) (q : Int32) (hT : xL_sum x0 a1 n1 a2 n2 G = some q) : mMet l E yL_sum cL_sum 5 (some .int) 0 0 [.int (x0), .ref (mad E (a1)), .ref (mad E (a2))] G (some (.int q)) G := by
  refine Met.ofW (cc := cL_sum) (maxL := 5) (ret := (some .int)) (by decide) rfl ?_
  intro p e s m args below meth cd s₁ B hml hv
  obtain ⟨rfl, hP, hK, hS⟩ := hv
  have X := mx_entry (own := RL) B hml hK hJ hS rfl
  have hx := X.1
  have hb := X.2.1
  have hown := X.2.2.2.1
  have hts := X.2.2.2.2.1
  have hr := B.returns
  have hlocks := B.notSynchronized
  have hR : 0 ≤ (headSpec (mWs yL_sum cL_sum 5 (some .int)) ({ frames := 0, cells := 0, slots := 0, locals := 0 })).room.frames ∧ 0 ≤ (headSpec (mWs yL_sum cL_sum 5 (some .int)) ({ frames := 0, cells := 0, slots := 0, locals := 0 })).room.locals := ⟨Nat.le_refl _, Nat.le_refl _⟩
  have Z : mZ E s.heap s.heap [] G := ⟨hP, va_S.rf⟩
  have hl := lv_entry ([.int (x0), .ref (mad E (a1)), .ref (mad E (a2))]) (n := 5) (Nat.le_of_ble_eq_true rfl)
  rw [lg_entry_eq]
  generalize (lg_sl ([.int (x0), .ref (mad E (a1)), .ref (mad E (a2))]) ++ List.replicate (5 - (lg_sl ([.int (x0), .ref (mad E (a1)), .ref (mad E (a2))])).length) Slot.unset).toArray = ls at hl ⊢
  have hl : lv_has ls 5 [(0, .int (x0)), (1, .ref (mad E (a1))), (2, .ref (mad E (a2)))] := hl
  unfold xL_sum at hT
  refine lv_iconst (v := (0 : Int32)) hx hb dL_sum_0 (by decide) ?_
  refine lv_istore_n (lv' := [(3, .int ((0 : Int32))), (0, .int (x0)), (1, .ref (mad E (a1))), (2, .ref (mad E (a2)))]) hx hb dL_sum_1 rfl hl (by decide) rfl (fun ls hl => ?_)
  refine lv_iconst (v := (0 : Int32)) hx hb dL_sum_2 (by decide) ?_
  refine lv_istore (lv' := [(4, .int ((0 : Int32))), (3, .int ((0 : Int32))), (0, .int (x0)), (1, .ref (mad E (a1))), (2, .ref (mad E (a2)))]) hx hb dL_sum_3 hl (by decide) rfl (fun ls hl => ?_)
  obtain ⟨q_6, h_q_6, hT⟩ := mx_bind hT
  refine kL_sum_5 X hR hJ ha1 ha2 _ _ _ _ _ _ _ _ _ h_q_6 Z (lv_sub (l' := [(0, .int (x0)), (1, .ref (mad E (a1))), (2, .ref (mad E (a2))), (3, .int ((0 : Int32))), (4, .int ((0 : Int32)))]) hl [2, 3, 4, 1, 0] rfl) (fun H locs ls Z hl => ?_)
  · refine lv_iload_n hx hb dL_sum_31 rfl (lv_at hl 3 rfl) ?_
    cases hT
    exact W.iret hx hb hr (fun t ht hW => mx_end Z t ht _) Z.2.2.2 dL_sum_32
/-! PeatRailwayLaw.copy -/
def xL_copy_L2 (y0 : Nat) (n0 : Nat) (y1 : Nat) (n1 : Nat) : Nat → Int32 → mM → Option (mM)
  | 0, _, _ => none
  | n + 1, w2, G =>
    if (nI n0) ≤ w2 then
      some (G)
    else
      mCk (mIn w2 n0) <|
      mCk (mIn w2 n1) <|
      mNm (up2 G y1 w2.toNatClampNeg (G y0 w2.toNatClampNeg)) fun G_4 =>
      mNm (w2 + (1 : Int32)) fun v_5 =>
      xL_copy_L2 y0 n0 y1 n1 n v_5 G_4
def xL_copy (a0 : Nat) (n0 : Nat) (a1 : Nat) (n1 : Nat) (G : mM) : Option mM :=
  (xL_copy_L2 a0 n0 a1 n1 mFu ((0 : Int32)) G).bind fun q_6 =>
  some (q_6)
theorem hdL_copy : yL_copy.cls ≠ "java/lang/invoke/MethodHandle" ∧ yL_copy.cls ≠ "java/lang/invoke/VarHandle" ∧ (parseMethodDescriptor yL_copy.desc).map (fun d => d.parameters.length) = some 2 := by decide +kernel
set_option maxHeartbeats 4000000 in
set_option maxRecDepth 100000 in
theorem kL_copy_2 {p : Program} {l : Launch} {e : Env} {R : Room} {s : State} {m : MethodId} {args : Array Value} {below : List Frame} {meth : Method} {cd : Code} {Q : State → Prop} {E : mE} (X : mX p s m args cd cL_copy 3 RL E) (hR : 0 ≤ R.frames ∧ 0 ≤ R.locals) (hJ : mJ E) {y0 : Nat} {n0 : Nat} {y1 : Nat} {n1 : Nat} (hy0 : mAi E y0 1 n0) (hy1 : mAi E y1 1 n1) : ∀ (n : Nat) (w2 : Int32) (G : mM) (H : Heap) (locs : List Loc) (ls : Array Slot) (r : mM), xL_copy_L2 y0 n0 y1 n1 n w2 G = some r → mZ E s.heap H locs G → lv_has ls 3 [(0, .ref (mad E (y0))), (1, .ref (mad E (y1))), (2, .int (w2))] → (∀ (H : Heap) (locs : List Loc) (ls : Array Slot), mZ E s.heap H locs r → lv_has ls 3 [(0, .ref (mad E (y0))), (1, .ref (mad E (y1)))] → W p l e R s m args below meth cd H locs 0 0 Q (F0 m 20 ls [])) → W p l e R s m args below meth cd H locs 0 0 Q (F0 m 2 ls []) := by
  have hx := X.1
  have hb := X.2.1
  have hown := X.2.2.2.1
  have hts := X.2.2.2.2.1
  intro n
  induction n with
  | zero =>
    intro w2 G H locs ls r hT
    rw [xL_copy_L2] at hT
    cases hT
  | succ n ih =>
    intro w2 G H locs ls r hT Z hl k0
    rw [xL_copy_L2] at hT
    refine lv_iload_n hx hb dL_copy_2 rfl (lv_at hl 2 rfl) ?_
    refine lv_aload_n hx hb dL_copy_3 rfl (lv_at hl 0 rfl) ?_
    refine mx_alen (t := 1) (v := nI n0) X Z hy0.1 (hy0.2 _) rfl rfl dL_copy_4 ?_
    refine lv_icmp_ge (tgt := 20) hx hb dL_copy_5 (by decide) (fun h_1 => ?_) (fun h_1 => ?_)
    · replace hT := mx_t hT h_1
      cases hT
      exact k0 _ _ _ Z (lv_sub hl [0, 1] rfl)
    · replace hT := mx_f hT h_1
      refine lv_aload_n hx hb dL_copy_8 rfl (lv_at hl 1 rfl) ?_
      refine lv_iload_n hx hb dL_copy_9 rfl (lv_at hl 2 rfl) ?_
      refine lv_aload_n hx hb dL_copy_10 rfl (lv_at hl 0 rfl) ?_
      refine lv_iload_n hx hb dL_copy_11 rfl (lv_at hl 2 rfl) ?_
      obtain ⟨h_2, hT⟩ := mx_chk hT
      refine mx_iald X Z hy0 h_2 dL_copy_12 ?_
      obtain ⟨h_3, hT⟩ := mx_chk hT
      obtain ⟨G_4, e_G_4, hT⟩ := mx_nm hT
      refine mx_iast X Z hy1 h_3 dL_copy_13 (fun H locs Z => ?_)
      rw [e_G_4] at Z
      obtain ⟨v_5, e_v_5, hT⟩ := mx_nm hT
      refine lv_iinc (v := v_5) (lv' := [(2, .int (v_5)), (0, .ref (mad E (y0))), (1, .ref (mad E (y1)))]) hx hb dL_copy_14 hl (k := 2) rfl (by rw [← e_v_5]; rfl) (by decide) rfl (fun ls hl => ?_)
      refine lv_goto (tgt := 2) hx hb dL_copy_17 (by decide) ?_
      exact ih _ _ _ _ _ _ hT Z (lv_sub hl [1, 2, 0] rfl) k0
set_option maxHeartbeats 4000000 in
set_option maxRecDepth 100000 in
theorem mL_copy (l : Launch) (E : mE) (hJ : mJ E) {a0 : Nat} {n0 : Nat} {a1 : Nat} {n1 : Nat} (ha0 : mAi E a0 1 n0) (ha1 : mAi E a1 1 n1) (G : mM) (q : mM) (hT : xL_copy a0 n0 a1 n1 G = some q) : mMet l E yL_copy cL_copy 3 none 0 0 [.ref (mad E (a0)), .ref (mad E (a1))] G (none) q := by
  refine Met.ofW (cc := cL_copy) (maxL := 3) (ret := none) (by decide) rfl ?_
  intro p e s m args below meth cd s₁ B hml hv
  obtain ⟨rfl, hP, hK, hS⟩ := hv
  have X := mx_entry (own := RL) B hml hK hJ hS rfl
  have hx := X.1
  have hb := X.2.1
  have hown := X.2.2.2.1
  have hts := X.2.2.2.2.1
  have hr := B.returns
  have hlocks := B.notSynchronized
  have hR : 0 ≤ (headSpec (mWs yL_copy cL_copy 3 none) ({ frames := 0, cells := 0, slots := 0, locals := 0 })).room.frames ∧ 0 ≤ (headSpec (mWs yL_copy cL_copy 3 none) ({ frames := 0, cells := 0, slots := 0, locals := 0 })).room.locals := ⟨Nat.le_refl _, Nat.le_refl _⟩
  have Z : mZ E s.heap s.heap [] G := ⟨hP, va_S.rf⟩
  have hl := lv_entry ([.ref (mad E (a0)), .ref (mad E (a1))]) (n := 3) (Nat.le_of_ble_eq_true rfl)
  rw [lg_entry_eq]
  generalize (lg_sl ([.ref (mad E (a0)), .ref (mad E (a1))]) ++ List.replicate (3 - (lg_sl ([.ref (mad E (a0)), .ref (mad E (a1))])).length) Slot.unset).toArray = ls at hl ⊢
  have hl : lv_has ls 3 [(0, .ref (mad E (a0))), (1, .ref (mad E (a1)))] := hl
  unfold xL_copy at hT
  refine lv_iconst (v := (0 : Int32)) hx hb dL_copy_0 (by decide) ?_
  refine lv_istore_n (lv' := [(2, .int ((0 : Int32))), (0, .ref (mad E (a0))), (1, .ref (mad E (a1)))]) hx hb dL_copy_1 rfl hl (by decide) rfl (fun ls hl => ?_)
  obtain ⟨q_6, h_q_6, hT⟩ := mx_bind hT
  refine kL_copy_2 X hR hJ ha0 ha1  _ _ _ _ _ _ _ h_q_6 Z (lv_sub (l' := [(0, .ref (mad E (a0))), (1, .ref (mad E (a1))), (2, .int ((0 : Int32)))]) hl [1, 2, 0] rfl) (fun H locs ls Z hl => ?_)
  · cases hT
    exact W.vret hx hb hr (fun t ht hW => mx_end Z t ht _) Z.2.2.2 dL_copy_20
/-! PeatRailwayLaw.again -/
def xL_again_L7 (y1 : Int32) (y2 : Nat) (n2 : Nat) : Nat → Int32 → mM → Option (Nat × mM)
  | 0, _, _ => none
  | n + 1, w3, G =>
    if y1 < w3 then
      some (0, G)
    else
      if w3 ≤ 0 then
        mCk (mIn (((3 : Int32)) * w3) n2) <|
        (x5_type (((48 : Int32)) + (G y2 ((((3 : Int32)) * w3).toNatClampNeg))) G).bind fun q_5 =>
        if q_5.1 < ((1 : Int32)) then
          some (1, q_5.2)
        else
          mCk (mIn ((((3 : Int32)) * w3) + ((1 : Int32))) n2) <|
          if (q_5.2 y2 (((((3 : Int32)) * w3) + ((1 : Int32))).toNatClampNeg)) = ((1 : Int32)) then
            (x5_type ((112 : Int32)) q_5.2).bind fun q_10 =>
            if ((1 : Int32)) ≤ q_10.1 then
              mNm (w3 + (1 : Int32)) fun v_12 =>
              xL_again_L7 y1 y2 n2 n v_12 q_10.2
            else
              some (1, q_10.2)
          else
            mNm (w3 + (1 : Int32)) fun v_9 =>
            xL_again_L7 y1 y2 n2 n v_9 q_5.2
      else
        (x5_type ((44 : Int32)) G).bind fun q_13 =>
        if q_13.1 < ((1 : Int32)) then
          some (1, q_13.2)
        else
          mCk (mIn (((3 : Int32)) * w3) n2) <|
          (x5_type (((48 : Int32)) + (q_13.2 y2 ((((3 : Int32)) * w3).toNatClampNeg))) q_13.2).bind fun q_16 =>
          if q_16.1 < ((1 : Int32)) then
            some (1, q_16.2)
          else
            mCk (mIn ((((3 : Int32)) * w3) + ((1 : Int32))) n2) <|
            if (q_16.2 y2 (((((3 : Int32)) * w3) + ((1 : Int32))).toNatClampNeg)) = ((1 : Int32)) then
              (x5_type ((112 : Int32)) q_16.2).bind fun q_21 =>
              if ((1 : Int32)) ≤ q_21.1 then
                mNm (w3 + (1 : Int32)) fun v_23 =>
                xL_again_L7 y1 y2 n2 n v_23 q_21.2
              else
                some (1, q_21.2)
            else
              mNm (w3 + (1 : Int32)) fun v_20 =>
              xL_again_L7 y1 y2 n2 n v_20 q_16.2
def xL_again (x1 : Int32) (a2 : Nat) (n2 : Nat) (G : mM) : Option (Int32 × mM) :=
  (x5_clear G).bind fun q_1 =>
  (xL_again_L7 x1 a2 n2 mFu ((0 : Int32)) q_1.2).bind fun q_24 =>
  if q_24.1 = 0 then
    some ((1 : Int32), q_24.2)
  else
    some ((0 : Int32), q_24.2)
theorem hdL_again : yL_again.cls ≠ "java/lang/invoke/MethodHandle" ∧ yL_again.cls ≠ "java/lang/invoke/VarHandle" ∧ (parseMethodDescriptor yL_again.desc).map (fun d => d.parameters.length) = some 3 := by decide +kernel
set_option maxHeartbeats 4000000 in
set_option maxRecDepth 100000 in
theorem kL_again_7 {p : Program} {l : Launch} {e : Env} {R : Room} {s : State} {m : MethodId} {args : Array Value} {below : List Frame} {meth : Method} {cd : Code} {Q : State → Prop} {E : mE} (X : mX p s m args cd cL_again 4 RL E) (hR : 2 ≤ R.frames ∧ 42 ≤ R.locals) (hJ : mJ E) {y2 : Nat} {n2 : Nat} (hy0 : mAl E 240) (hy2 : mAi E y2 1 n2) (y1 : Int32) : ∀ (n : Nat) (w3 : Int32) (G : mM) (H : Heap) (locs : List Loc) (ls : Array Slot) (r : Nat × mM), xL_again_L7 y1 y2 n2 n w3 G = some r → mZ E s.heap H locs G → lv_has ls 4 [(0, .ref (mad E (240))), (1, .int (y1)), (2, .ref (mad E (y2))), (3, .int (w3))] → (r.1 = 0 → ∀ (H : Heap) (locs : List Loc) (ls : Array Slot), mZ E s.heap H locs r.2 → lv_has ls 4 [(0, .ref (mad E (240))), (1, .int (y1)), (2, .ref (mad E (y2)))] → W p l e R s m args below meth cd H locs 0 0 Q (F0 m 71 ls [])) → (r.1 = 1 → ∀ (H : Heap) (locs : List Loc) (ls : Array Slot), mZ E s.heap H locs r.2 → lv_has ls 4 [(0, .ref (mad E (240))), (1, .int (y1)), (2, .ref (mad E (y2)))] → W p l e R s m args below meth cd H locs 0 0 Q (F0 m 63 ls [])) → W p l e R s m args below meth cd H locs 0 0 Q (F0 m 7 ls []) := by
  have hx := X.1
  have hb := X.2.1
  have hown := X.2.2.2.1
  have hts := X.2.2.2.2.1
  intro n
  induction n with
  | zero =>
    intro w3 G H locs ls r hT
    rw [xL_again_L7] at hT
    cases hT
  | succ n ih =>
    intro w3 G H locs ls r hT Z hl k0 k1
    rw [xL_again_L7] at hT
    refine lv_iload_n hx hb dL_again_7 rfl (lv_at hl 3 rfl) ?_
    refine lv_iload_n hx hb dL_again_8 rfl (lv_at hl 1 rfl) ?_
    refine lv_icmp_gt (tgt := 71) hx hb dL_again_9 (by decide) (fun h_2 => ?_) (fun h_2 => ?_)
    · replace hT := mx_t hT h_2
      cases hT
      exact k0 rfl _ _ _ Z (lv_sub hl [0, 1, 2] rfl)
    · replace hT := mx_f hT h_2
      refine lv_iload_n hx hb dL_again_12 rfl (lv_at hl 3 rfl) ?_
      refine lv_if_le (tgt := 26) hx hb dL_again_13 (by decide) (fun h_3 => ?_) (fun h_3 => ?_)
      · replace hT := mx_t hT h_3
        refine lv_aload_n hx hb dL_again_26 rfl (lv_at hl 0 rfl) ?_
        refine lv_bipush (v := (48 : Int32)) hx hb dL_again_27 (by decide) ?_
        refine lv_aload_n hx hb dL_again_29 rfl (lv_at hl 2 rfl) ?_
        refine lv_iconst (v := (3 : Int32)) hx hb dL_again_30 (by decide) ?_
        refine lv_iload_n hx hb dL_again_31 rfl (lv_at hl 3 rfl) ?_
        refine lv_imul hx hb dL_again_32 ?_
        obtain ⟨h_4, hT⟩ := mx_chk hT
        refine mx_iald X Z hy2 h_4 dL_again_33 ?_
        refine lv_iadd hx hb dL_again_34 ?_
        obtain ⟨q_5, h_q_5, hT⟩ := mx_bind hT
        refine mx_callV (As := [.int (((48 : Int32)) + (G y2 ((((3 : Int32)) * w3).toNatClampNeg)))]) (rest := []) (st1 := [.int (q_5.1)]) (C := RX5) (T := TX5) (N := 6) (ci := 5) X Z hl.1 (c5_type l E hJ hy0 _ _ _ h_q_5) wd_21_19 wd_21_20 wd_21_21 wd_1_2 wd_21_22 hd5_type ⟨Nat.le_trans (by decide) hR.1, Nat.le_trans (by decide) hR.2⟩ ⟨Nat.zero_le _, Nat.zero_le _⟩ hy0.i (hy0.c _) rfl (Nat.le_of_ble_eq_true rfl) rfl rfl dL_again_35 (fun H locs Z => ?_)
        refine lv_iconst (v := (1 : Int32)) hx hb dL_again_38 (by decide) ?_
        refine lv_icmp_lt (tgt := 63) hx hb dL_again_39 (by decide) (fun h_6 => ?_) (fun h_6 => ?_)
        · replace hT := mx_t hT h_6
          cases hT
          exact k1 rfl _ _ _ Z (lv_sub hl [0, 1, 2] rfl)
        · replace hT := mx_f hT h_6
          refine lv_aload_n hx hb dL_again_42 rfl (lv_at hl 2 rfl) ?_
          refine lv_iconst (v := (3 : Int32)) hx hb dL_again_43 (by decide) ?_
          refine lv_iload_n hx hb dL_again_44 rfl (lv_at hl 3 rfl) ?_
          refine lv_imul hx hb dL_again_45 ?_
          refine lv_iconst (v := (1 : Int32)) hx hb dL_again_46 (by decide) ?_
          refine lv_iadd hx hb dL_again_47 ?_
          obtain ⟨h_7, hT⟩ := mx_chk hT
          refine mx_iald X Z hy2 h_7 dL_again_48 ?_
          refine lv_iconst (v := (1 : Int32)) hx hb dL_again_49 (by decide) ?_
          refine lv_icmp_ne (tgt := 65) hx hb dL_again_50 (by decide) (fun h_8 => ?_) (fun h_8 => ?_)
          · replace hT := mx_f hT h_8
            obtain ⟨v_9, e_v_9, hT⟩ := mx_nm hT
            refine lv_iinc (v := v_9) (lv' := [(3, .int (v_9)), (0, .ref (mad E (240))), (1, .int (y1)), (2, .ref (mad E (y2)))]) hx hb dL_again_65 hl (k := 3) rfl (by rw [← e_v_9]; rfl) (by decide) rfl (fun ls hl => ?_)
            refine lv_goto (tgt := 7) hx hb dL_again_68 (by decide) ?_
            exact ih _ _ _ _ _ _ hT Z (lv_sub hl [1, 2, 3, 0] rfl) k0 k1
          · replace hT := mx_t hT h_8
            refine lv_aload_n hx hb dL_again_53 rfl (lv_at hl 0 rfl) ?_
            refine lv_bipush (v := (112 : Int32)) hx hb dL_again_54 (by decide) ?_
            obtain ⟨q_10, h_q_10, hT⟩ := mx_bind hT
            refine mx_callV (As := [.int ((112 : Int32))]) (rest := []) (st1 := [.int (q_10.1)]) (C := RX5) (T := TX5) (N := 6) (ci := 5) X Z hl.1 (c5_type l E hJ hy0 _ _ _ h_q_10) wd_21_19 wd_21_20 wd_21_21 wd_1_2 wd_21_22 hd5_type ⟨Nat.le_trans (by decide) hR.1, Nat.le_trans (by decide) hR.2⟩ ⟨Nat.zero_le _, Nat.zero_le _⟩ hy0.i (hy0.c _) rfl (Nat.le_of_ble_eq_true rfl) rfl rfl dL_again_56 (fun H locs Z => ?_)
            refine lv_iconst (v := (1 : Int32)) hx hb dL_again_59 (by decide) ?_
            refine lv_icmp_ge (tgt := 65) hx hb dL_again_60 (by decide) (fun h_11 => ?_) (fun h_11 => ?_)
            · replace hT := mx_t hT h_11
              obtain ⟨v_12, e_v_12, hT⟩ := mx_nm hT
              refine lv_iinc (v := v_12) (lv' := [(3, .int (v_12)), (0, .ref (mad E (240))), (1, .int (y1)), (2, .ref (mad E (y2)))]) hx hb dL_again_65 hl (k := 3) rfl (by rw [← e_v_12]; rfl) (by decide) rfl (fun ls hl => ?_)
              refine lv_goto (tgt := 7) hx hb dL_again_68 (by decide) ?_
              exact ih _ _ _ _ _ _ hT Z (lv_sub hl [1, 2, 3, 0] rfl) k0 k1
            · replace hT := mx_f hT h_11
              cases hT
              exact k1 rfl _ _ _ Z (lv_sub hl [0, 1, 2] rfl)
      · replace hT := mx_f hT h_3
        refine lv_aload_n hx hb dL_again_16 rfl (lv_at hl 0 rfl) ?_
        refine lv_bipush (v := (44 : Int32)) hx hb dL_again_17 (by decide) ?_
        obtain ⟨q_13, h_q_13, hT⟩ := mx_bind hT
        refine mx_callV (As := [.int ((44 : Int32))]) (rest := []) (st1 := [.int (q_13.1)]) (C := RX5) (T := TX5) (N := 6) (ci := 5) X Z hl.1 (c5_type l E hJ hy0 _ _ _ h_q_13) wd_21_19 wd_21_20 wd_21_21 wd_1_2 wd_21_22 hd5_type ⟨Nat.le_trans (by decide) hR.1, Nat.le_trans (by decide) hR.2⟩ ⟨Nat.zero_le _, Nat.zero_le _⟩ hy0.i (hy0.c _) rfl (Nat.le_of_ble_eq_true rfl) rfl rfl dL_again_19 (fun H locs Z => ?_)
        refine lv_iconst (v := (1 : Int32)) hx hb dL_again_22 (by decide) ?_
        refine lv_icmp_lt (tgt := 63) hx hb dL_again_23 (by decide) (fun h_14 => ?_) (fun h_14 => ?_)
        · replace hT := mx_t hT h_14
          cases hT
          exact k1 rfl _ _ _ Z (lv_sub hl [0, 1, 2] rfl)
        · replace hT := mx_f hT h_14
          refine lv_aload_n hx hb dL_again_26 rfl (lv_at hl 0 rfl) ?_
          refine lv_bipush (v := (48 : Int32)) hx hb dL_again_27 (by decide) ?_
          refine lv_aload_n hx hb dL_again_29 rfl (lv_at hl 2 rfl) ?_
          refine lv_iconst (v := (3 : Int32)) hx hb dL_again_30 (by decide) ?_
          refine lv_iload_n hx hb dL_again_31 rfl (lv_at hl 3 rfl) ?_
          refine lv_imul hx hb dL_again_32 ?_
          obtain ⟨h_15, hT⟩ := mx_chk hT
          refine mx_iald X Z hy2 h_15 dL_again_33 ?_
          refine lv_iadd hx hb dL_again_34 ?_
          obtain ⟨q_16, h_q_16, hT⟩ := mx_bind hT
          refine mx_callV (As := [.int (((48 : Int32)) + (q_13.2 y2 ((((3 : Int32)) * w3).toNatClampNeg)))]) (rest := []) (st1 := [.int (q_16.1)]) (C := RX5) (T := TX5) (N := 6) (ci := 5) X Z hl.1 (c5_type l E hJ hy0 _ _ _ h_q_16) wd_21_19 wd_21_20 wd_21_21 wd_1_2 wd_21_22 hd5_type ⟨Nat.le_trans (by decide) hR.1, Nat.le_trans (by decide) hR.2⟩ ⟨Nat.zero_le _, Nat.zero_le _⟩ hy0.i (hy0.c _) rfl (Nat.le_of_ble_eq_true rfl) rfl rfl dL_again_35 (fun H locs Z => ?_)
          refine lv_iconst (v := (1 : Int32)) hx hb dL_again_38 (by decide) ?_
          refine lv_icmp_lt (tgt := 63) hx hb dL_again_39 (by decide) (fun h_17 => ?_) (fun h_17 => ?_)
          · replace hT := mx_t hT h_17
            cases hT
            exact k1 rfl _ _ _ Z (lv_sub hl [0, 1, 2] rfl)
          · replace hT := mx_f hT h_17
            refine lv_aload_n hx hb dL_again_42 rfl (lv_at hl 2 rfl) ?_
            refine lv_iconst (v := (3 : Int32)) hx hb dL_again_43 (by decide) ?_
            refine lv_iload_n hx hb dL_again_44 rfl (lv_at hl 3 rfl) ?_
            refine lv_imul hx hb dL_again_45 ?_
            refine lv_iconst (v := (1 : Int32)) hx hb dL_again_46 (by decide) ?_
            refine lv_iadd hx hb dL_again_47 ?_
            obtain ⟨h_18, hT⟩ := mx_chk hT
            refine mx_iald X Z hy2 h_18 dL_again_48 ?_
            refine lv_iconst (v := (1 : Int32)) hx hb dL_again_49 (by decide) ?_
            refine lv_icmp_ne (tgt := 65) hx hb dL_again_50 (by decide) (fun h_19 => ?_) (fun h_19 => ?_)
            · replace hT := mx_f hT h_19
              obtain ⟨v_20, e_v_20, hT⟩ := mx_nm hT
              refine lv_iinc (v := v_20) (lv' := [(3, .int (v_20)), (0, .ref (mad E (240))), (1, .int (y1)), (2, .ref (mad E (y2)))]) hx hb dL_again_65 hl (k := 3) rfl (by rw [← e_v_20]; rfl) (by decide) rfl (fun ls hl => ?_)
              refine lv_goto (tgt := 7) hx hb dL_again_68 (by decide) ?_
              exact ih _ _ _ _ _ _ hT Z (lv_sub hl [1, 2, 3, 0] rfl) k0 k1
            · replace hT := mx_t hT h_19
              refine lv_aload_n hx hb dL_again_53 rfl (lv_at hl 0 rfl) ?_
              refine lv_bipush (v := (112 : Int32)) hx hb dL_again_54 (by decide) ?_
              obtain ⟨q_21, h_q_21, hT⟩ := mx_bind hT
              refine mx_callV (As := [.int ((112 : Int32))]) (rest := []) (st1 := [.int (q_21.1)]) (C := RX5) (T := TX5) (N := 6) (ci := 5) X Z hl.1 (c5_type l E hJ hy0 _ _ _ h_q_21) wd_21_19 wd_21_20 wd_21_21 wd_1_2 wd_21_22 hd5_type ⟨Nat.le_trans (by decide) hR.1, Nat.le_trans (by decide) hR.2⟩ ⟨Nat.zero_le _, Nat.zero_le _⟩ hy0.i (hy0.c _) rfl (Nat.le_of_ble_eq_true rfl) rfl rfl dL_again_56 (fun H locs Z => ?_)
              refine lv_iconst (v := (1 : Int32)) hx hb dL_again_59 (by decide) ?_
              refine lv_icmp_ge (tgt := 65) hx hb dL_again_60 (by decide) (fun h_22 => ?_) (fun h_22 => ?_)
              · replace hT := mx_t hT h_22
                obtain ⟨v_23, e_v_23, hT⟩ := mx_nm hT
                refine lv_iinc (v := v_23) (lv' := [(3, .int (v_23)), (0, .ref (mad E (240))), (1, .int (y1)), (2, .ref (mad E (y2)))]) hx hb dL_again_65 hl (k := 3) rfl (by rw [← e_v_23]; rfl) (by decide) rfl (fun ls hl => ?_)
                refine lv_goto (tgt := 7) hx hb dL_again_68 (by decide) ?_
                exact ih _ _ _ _ _ _ hT Z (lv_sub hl [1, 2, 3, 0] rfl) k0 k1
              · replace hT := mx_f hT h_22
                cases hT
                exact k1 rfl _ _ _ Z (lv_sub hl [0, 1, 2] rfl)
set_option maxHeartbeats 4000000 in
set_option maxRecDepth 100000 in
theorem mL_again (l : Launch) (E : mE) (hJ : mJ E) {a2 : Nat} {n2 : Nat} (hd0 : mAl E 240) (ha2 : mAi E a2 1 n2) (x1 : Int32) (G : mM) (q : (Int32 × mM)) (hT : xL_again x1 a2 n2 G = some q) : mMet l E yL_again cL_again 4 (some .boolean) 2 42 [.ref (mad E (240)), .int (x1), .ref (mad E (a2))] G (some (.int q.1)) q.2 := by
  refine Met.ofW (cc := cL_again) (maxL := 4) (ret := (some .boolean)) (by decide) rfl ?_
  intro p e s m args below meth cd s₁ B hml hv
  obtain ⟨rfl, hP, hK, hS⟩ := hv
  have X := mx_entry (own := RL) B hml hK hJ hS rfl
  have hx := X.1
  have hb := X.2.1
  have hown := X.2.2.2.1
  have hts := X.2.2.2.2.1
  have hr := B.returns
  have hlocks := B.notSynchronized
  have hR : 2 ≤ (headSpec (mWs yL_again cL_again 4 (some .boolean)) ({ frames := 2, cells := 0, slots := 0, locals := 42 })).room.frames ∧ 42 ≤ (headSpec (mWs yL_again cL_again 4 (some .boolean)) ({ frames := 2, cells := 0, slots := 0, locals := 42 })).room.locals := ⟨Nat.le_refl _, Nat.le_refl _⟩
  have Z : mZ E s.heap s.heap [] G := ⟨hP, va_S.rf⟩
  have hl := lv_entry ([.ref (mad E (240)), .int (x1), .ref (mad E (a2))]) (n := 4) (Nat.le_of_ble_eq_true rfl)
  rw [lg_entry_eq]
  generalize (lg_sl ([.ref (mad E (240)), .int (x1), .ref (mad E (a2))]) ++ List.replicate (4 - (lg_sl ([.ref (mad E (240)), .int (x1), .ref (mad E (a2))])).length) Slot.unset).toArray = ls at hl ⊢
  have hl : lv_has ls 4 [(0, .ref (mad E (240))), (1, .int (x1)), (2, .ref (mad E (a2)))] := hl
  unfold xL_again at hT
  refine lv_aload_n hx hb dL_again_0 rfl (lv_at hl 0 rfl) ?_
  obtain ⟨q_1, h_q_1, hT⟩ := mx_bind hT
  refine mx_callV (As := []) (rest := []) (st1 := [.int (q_1.1)]) (C := RX5) (T := TX5) (N := 6) (ci := 5) X Z hl.1 (c5_clear l E hJ hd0 _ _ h_q_1) wd_21_3 wd_21_4 wd_21_5 wd_1_2 wd_21_6 hd5_clear ⟨Nat.le_trans (by decide) hR.1, Nat.le_trans (by decide) hR.2⟩ ⟨Nat.zero_le _, Nat.zero_le _⟩ hd0.i (hd0.c _) rfl (Nat.le_of_ble_eq_true rfl) rfl rfl dL_again_1 (fun H locs Z => ?_)
  refine lv_pop hx hb dL_again_4 rfl ?_
  refine lv_iconst (v := (0 : Int32)) hx hb dL_again_5 (by decide) ?_
  refine lv_istore_n (lv' := [(3, .int ((0 : Int32))), (0, .ref (mad E (240))), (1, .int (x1)), (2, .ref (mad E (a2)))]) hx hb dL_again_6 rfl hl (by decide) rfl (fun ls hl => ?_)
  obtain ⟨q_24, h_q_24, hT⟩ := mx_bind hT
  refine kL_again_7 X hR hJ hd0 ha2 _ _ _ _ _ _ _ _ h_q_24 Z (lv_sub (l' := [(0, .ref (mad E (240))), (1, .int (x1)), (2, .ref (mad E (a2))), (3, .int ((0 : Int32)))]) hl [1, 2, 3, 0] rfl) (fun ht H locs ls Z hl => ?_) (fun ht H locs ls Z hl => ?_)
  · replace hT := mx_t hT ht
    refine lv_iconst (v := (1 : Int32)) hx hb dL_again_71 (by decide) ?_
    cases hT
    exact W.zret (v := (1 : Int32)) hx hb hr rfl (fun t ht hW => mx_end Z t ht _) Z.2.2.2 dL_again_72
  · replace hT := mx_f hT (by rw [ht]; decide)
    refine lv_iconst (v := (0 : Int32)) hx hb dL_again_63 (by decide) ?_
    cases hT
    exact W.zret (v := (0 : Int32)) hx hb hr rfl (fun t ht hW => mx_end Z t ht _) Z.2.2.2 dL_again_64
