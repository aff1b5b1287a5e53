/-! PeatRailwayLaw.law, from 42 -/
def xL_law_T_L60 (L : Nat) (xs : Nat → Int32) : Nat → Int32 → mM → Option (mM)
  | 0, _, _ => none
  | n + 1, w8, G =>
    if ((7 : Int32)) ≤ w8 then
      some (G)
    else
      if w8 = 0 then
        mCk (mIn (((3 : Int32)) * w8) 24) <|
        mNm (up2 G 247 ((((3 : Int32)) * w8).toNatClampNeg) ((0 : Int32))) fun G_7 =>
        if (w8 - w8 / ((3 : Int32)) * ((3 : Int32))) = 0 then
          mCk (mIn ((((3 : Int32)) * w8) + ((1 : Int32))) 24) <|
          mNm (up2 G_7 247 (((((3 : Int32)) * w8) + ((1 : Int32))).toNatClampNeg) ((1 : Int32))) fun G_13 =>
          mNm (w8 + (1 : Int32)) fun v_14 =>
          xL_law_T_L60 L xs n v_14 G_13
        else
          mCk (mIn ((((3 : Int32)) * w8) + ((1 : Int32))) 24) <|
          mNm (up2 G_7 247 (((((3 : Int32)) * w8) + ((1 : Int32))).toNatClampNeg) ((0 : Int32))) fun G_10 =>
          mNm (w8 + (1 : Int32)) fun v_11 =>
          xL_law_T_L60 L xs n v_11 G_10
      else
        if w8 = ((6 : Int32)) then
          mCk (mIn (((3 : Int32)) * w8) 24) <|
          mNm (up2 G 247 ((((3 : Int32)) * w8).toNatClampNeg) ((0 : Int32))) fun G_36 =>
          if (w8 - w8 / ((3 : Int32)) * ((3 : Int32))) = 0 then
            mCk (mIn ((((3 : Int32)) * w8) + ((1 : Int32))) 24) <|
            mNm (up2 G_36 247 (((((3 : Int32)) * w8) + ((1 : Int32))).toNatClampNeg) ((1 : Int32))) fun G_42 =>
            mNm (w8 + (1 : Int32)) fun v_43 =>
            xL_law_T_L60 L xs n v_43 G_42
          else
            mCk (mIn ((((3 : Int32)) * w8) + ((1 : Int32))) 24) <|
            mNm (up2 G_36 247 (((((3 : Int32)) * w8) + ((1 : Int32))).toNatClampNeg) ((0 : Int32))) fun G_39 =>
            mNm (w8 + (1 : Int32)) fun v_40 =>
            xL_law_T_L60 L xs n v_40 G_39
        else
          if w8 = ((3 : Int32)) then
            mCk (mIn (((3 : Int32)) * w8) 24) <|
            mNm (up2 G 247 ((((3 : Int32)) * w8).toNatClampNeg) ((2 : Int32))) fun G_27 =>
            if (w8 - w8 / ((3 : Int32)) * ((3 : Int32))) = 0 then
              mCk (mIn ((((3 : Int32)) * w8) + ((1 : Int32))) 24) <|
              mNm (up2 G_27 247 (((((3 : Int32)) * w8) + ((1 : Int32))).toNatClampNeg) ((1 : Int32))) fun G_33 =>
              mNm (w8 + (1 : Int32)) fun v_34 =>
              xL_law_T_L60 L xs n v_34 G_33
            else
              mCk (mIn ((((3 : Int32)) * w8) + ((1 : Int32))) 24) <|
              mNm (up2 G_27 247 (((((3 : Int32)) * w8) + ((1 : Int32))).toNatClampNeg) ((0 : Int32))) fun G_30 =>
              mNm (w8 + (1 : Int32)) fun v_31 =>
              xL_law_T_L60 L xs n v_31 G_30
          else
            mCk (mIn (((3 : Int32)) * w8) 24) <|
            mNm (up2 G 247 ((((3 : Int32)) * w8).toNatClampNeg) ((4 : Int32))) fun G_18 =>
            if (w8 - w8 / ((3 : Int32)) * ((3 : Int32))) = 0 then
              mCk (mIn ((((3 : Int32)) * w8) + ((1 : Int32))) 24) <|
              mNm (up2 G_18 247 (((((3 : Int32)) * w8) + ((1 : Int32))).toNatClampNeg) ((1 : Int32))) fun G_24 =>
              mNm (w8 + (1 : Int32)) fun v_25 =>
              xL_law_T_L60 L xs n v_25 G_24
            else
              mCk (mIn ((((3 : Int32)) * w8) + ((1 : Int32))) 24) <|
              mNm (up2 G_18 247 (((((3 : Int32)) * w8) + ((1 : Int32))).toNatClampNeg) ((0 : Int32))) fun G_21 =>
              mNm (w8 + (1 : Int32)) fun v_22 =>
              xL_law_T_L60 L xs n v_22 G_21
def xL_law_T_J368 (L : Nat) (xs : Nat → Int32) (K : Int32 → mM → Option (Nat × mM)) (z8 : Int32) (z10 : Int32) (G : mM) : Option (Nat × mM) :=
  if (z8 - z8 / ((6 : Int32)) * ((6 : Int32))) = ((5 : Int32)) then
    mCk (h244 G) <|
    (xL_ahead (z10 >>> ((2 : Int32) &&& 31)) G).bind fun q_72 =>
    mCk (h244 q_72.2) <|
    if q_72.1 = 0 then
      some (4, q_72.2)
    else
      mNm (z8 + (1 : Int32)) fun v_75 =>
      K v_75 q_72.2
  else
    mNm (z8 + (1 : Int32)) fun v_70 =>
    K v_70 G
def xL_law_T_J267 (L : Nat) (xs : Nat → Int32) (K : Int32 → mM → Option (Nat × mM)) (z8 : Int32) (z9 : Int32) (z10 : Int32) (z11 : Int32) (t0 : Int32) (G : mM) : Option (Nat × mM) :=
  (xL_act t0 z9 z10 246 10 247 24 248 40 G).bind fun q_64 =>
  if q_64.1 = 0 then
    some (1, q_64.2)
  else
    (xL_told 246 10 247 24 248 40 q_64.2).bind fun q_66 =>
    if q_66 = 0 then
      some (1, q_64.2)
    else
      if ((8 : Int32)) ≤ z11 then
        xL_law_T_J368 L xs K z8 z10 q_64.2
      else
        (x5_count ((5 : Int32)) q_64.2).bind fun q_76 =>
        if q_76 = (z11 + ((1 : Int32))) then
          (xL_at (z10 >>> ((12 : Int32) &&& 31)) ((5 : Int32)) q_64.2).bind fun q_85 =>
          if q_85 = 0 then
            (x5_undo q_64.2).bind fun q_94 =>
            if q_94.1 = z11 then
              (xL_copy 249 10 246 10 q_94.2).bind fun q_96 =>
              (xL_copy 250 24 247 24 q_96).bind fun q_97 =>
              (xL_copy 251 40 248 40 q_97).bind fun q_98 =>
              (xL_told 246 10 247 24 248 40 q_98).bind fun q_99 =>
              if q_99 = 0 then
                some (3, q_98)
              else
                xL_law_T_J368 L xs K z8 z10 q_98
            else
              some (2, q_94.2)
          else
            xL_law_T_J368 L xs K z8 z10 q_64.2
        else
          xL_law_T_J368 L xs K z8 z10 q_64.2
def xL_law_T_L161 (L : Nat) (xs : Nat → Int32) : Nat → Int32 → mM → Option (Nat × mM)
  | 0, _, _ => none
  | n + 1, w8, G =>
    if ((26 : Int32)) ≤ w8 then
      some (0, G)
    else
      mCk (¬ (((2 : Int32)) * w8) < 0) <|
      mNm ((cellV L xs (((2 : Int32)) * w8)) &&& ((2147483647 : Int32))) fun v_53 =>
      mCk (¬ ((((2 : Int32)) * w8) + ((1 : Int32))) < 0) <|
      mNm ((cellV L xs ((((2 : Int32)) * w8) + ((1 : Int32)))) &&& ((2147483647 : Int32))) fun v_55 =>
      (xL_copy 246 10 249 10 G).bind fun q_56 =>
      (xL_copy 247 24 250 24 q_56).bind fun q_57 =>
      (xL_copy 248 40 251 40 q_57).bind fun q_58 =>
      (x5_count ((5 : Int32)) q_58).bind fun q_59 =>
      if w8 = ((1 : Int32)) then
        xL_law_T_J267 L xs (xL_law_T_L161 L xs n) w8 v_53 v_55 q_59 ((15 : Int32)) q_58
      else
        if ((4 : Int32)) ≤ w8 then
          if ((6 : Int32)) ≤ w8 then
            (xL_at (v_53 >>> ((13 : Int32) &&& 31)) ((18 : Int32)) q_58).bind fun q_63 =>
            xL_law_T_J267 L xs (xL_law_T_L161 L xs n) w8 v_53 v_55 q_59 q_63 q_58
          else
            xL_law_T_J267 L xs (xL_law_T_L161 L xs n) w8 v_53 v_55 q_59 ((7 : Int32)) q_58
        else
          xL_law_T_J267 L xs (xL_law_T_L161 L xs n) w8 v_53 v_55 q_59 ((10 : Int32)) q_58
def xL_law_T (L : Nat) (xs : Nat → Int32) (G : mM) : Option (Int32 × mM) :=
  mNm (up2 G 246 0 ((7 : Int32))) fun G_1 =>
  mNm (up2 G_1 246 2 ((300 : Int32))) fun G_2 =>
  mNm (up2 G_2 246 3 ((5 : Int32))) fun G_3 =>
  (xL_law_T_L60 L xs mFu ((0 : Int32)) G_3).bind fun q_44 =>
  (x5_undo q_44).bind fun q_45 =>
  if q_45.1 = ((-3 : Int32)) then
    (x5_back ((0 : Int32)) q_45.2).bind fun q_47 =>
    if q_47.1 = ((-3 : Int32)) then
      (xL_told 246 10 247 24 248 40 q_47.2).bind fun q_49 =>
      if q_49 = 0 then
        some ((0 : Int32), q_47.2)
      else
        (xL_law_T_L161 L xs 27 ((1 : Int32)) q_47.2).bind fun q_240 =>
        if q_240.1 = 0 then
          some ((1 : Int32), q_240.2)
        else
          if q_240.1 = 1 then
            some ((0 : Int32), q_240.2)
          else
            if q_240.1 = 2 then
              some ((0 : Int32), q_240.2)
            else
              if q_240.1 = 3 then
                some ((0 : Int32), q_240.2)
              else
                some ((0 : Int32), q_240.2)
    else
      some ((0 : Int32), q_47.2)
  else
    some ((0 : Int32), q_45.2)
set_option maxHeartbeats 4000000 in
set_option maxRecDepth 100000 in
theorem kL_law_60 {p : Program} {l : Launch} {e : Env} {R : Room} {s : State} {m : MethodId} {args : Array Value} {below : List Frame} {meth : Method} {cd : Code} {Q : State → Prop} {E : mE} (X : mX p s m args cd cL_law 12 RL E) (hR : 8 ≤ R.frames ∧ 199 ≤ R.locals) (hJ : mJ E) {cN sN : Nat} (hC : cN ≤ R.cells ∧ sN ≤ R.slots) {b : Nat} (hI : mI E = List.range 252) {L : Nat} {xs : Nat → Int32} (hX : va_X b L xs s s.heap) (hbl : b < s.heap.size) (hbA : ¬ mA E b) (hL : L ≤ 260) (hy1 : mAl E 240) (hy2 : mAi E 246 1 10) (hy3 : mAi E 247 1 24) (hy4 : mAi E 248 1 40) (hy5 : mAi E 249 1 10) (hy6 : mAi E 250 1 24) (hy7 : mAi E 251 1 40) : ∀ (n : Nat) (w8 : Int32) (G : mM) (H : Heap) (locs : List Loc) (ls : Array Slot) (r : mM), xL_law_T_L60 L xs n w8 G = some r → mZ E s.heap H locs G → lv_has ls 12 [(0, .ref b), (1, .ref (mad E (240))), (2, .ref (mad E (246))), (3, .ref (mad E (247))), (4, .ref (mad E (248))), (5, .ref (mad E (249))), (6, .ref (mad E (250))), (7, .ref (mad E (251))), (8, .int (w8))] → (∀ (H : Heap) (locs : List Loc) (ls : Array Slot), mZ E s.heap H locs r → lv_has ls 12 [(0, .ref b), (1, .ref (mad E (240))), (2, .ref (mad E (246))), (3, .ref (mad E (247))), (4, .ref (mad E (248))), (5, .ref (mad E (249))), (6, .ref (mad E (250))), (7, .ref (mad E (251)))] → W p l e R s m args below meth cd H locs cN sN Q (F0 m 126 ls [])) → W p l e R s m args below meth cd H locs cN sN Q (F0 m 60 ls []) := by
  have hx := X.1
  have hb := X.2.1
  have hown := X.2.2.2.1
  have hts := X.2.2.2.2.1
  intro n
  induction n with
  | zero =>
    intro w8 G H locs ls r hT
    rw [xL_law_T_L60] at hT
    cases hT
  | succ n ih =>
    intro w8 G H locs ls r hT Z hl k0
    rw [xL_law_T_L60] at hT
    refine lv_iload hx hb dL_law_60 (lv_at hl 8 rfl) ?_
    refine lv_bipush (v := (7 : Int32)) hx hb dL_law_62 (by decide) ?_
    refine lv_icmp_ge (tgt := 126) hx hb dL_law_64 (by decide) (fun h_4 => ?_) (fun h_4 => ?_)
    · replace hT := mx_t hT h_4
      cases hT
      exact k0 _ _ _ Z (lv_sub hl [0, 1, 2, 3, 4, 5, 6, 7] rfl)
    · replace hT := mx_f hT h_4
      refine lv_aload_n hx hb dL_law_67 rfl (lv_at hl 3 rfl) ?_
      refine lv_iconst (v := (3 : Int32)) hx hb dL_law_68 (by decide) ?_
      refine lv_iload hx hb dL_law_69 (lv_at hl 8 rfl) ?_
      refine lv_imul hx hb dL_law_71 ?_
      refine lv_iload hx hb dL_law_72 (lv_at hl 8 rfl) ?_
      refine lv_if_eq (tgt := 84) hx hb dL_law_74 (by decide) (fun h_5 => ?_) (fun h_5 => ?_)
      · replace hT := mx_t hT h_5
        refine lv_iconst (v := (0 : Int32)) hx hb dL_law_84 (by decide) ?_
        refine lv_goto (tgt := 99) hx hb dL_law_85 (by decide) ?_
        obtain ⟨h_6, hT⟩ := mx_chk hT
        obtain ⟨G_7, e_G_7, hT⟩ := mx_nm hT
        refine mx_iast X Z hy3 h_6 dL_law_99 (fun H locs Z => ?_)
        rw [e_G_7] at Z
        refine lv_aload_n hx hb dL_law_100 rfl (lv_at hl 3 rfl) ?_
        refine lv_iconst (v := (3 : Int32)) hx hb dL_law_101 (by decide) ?_
        refine lv_iload hx hb dL_law_102 (lv_at hl 8 rfl) ?_
        refine lv_imul hx hb dL_law_104 ?_
        refine lv_iconst (v := (1 : Int32)) hx hb dL_law_105 (by decide) ?_
        refine lv_iadd hx hb dL_law_106 ?_
        refine lv_iload hx hb dL_law_107 (lv_at hl 8 rfl) ?_
        refine lv_iconst (v := (3 : Int32)) hx hb dL_law_109 (by decide) ?_
        refine lv_irem hx hb dL_law_110 (by decide) ?_
        refine lv_if_ne (tgt := 118) hx hb dL_law_111 (by decide) (fun h_8 => ?_) (fun h_8 => ?_)
        · replace hT := mx_f hT h_8
          refine lv_iconst (v := (0 : Int32)) hx hb dL_law_118 (by decide) ?_
          obtain ⟨h_9, hT⟩ := mx_chk hT
          obtain ⟨G_10, e_G_10, hT⟩ := mx_nm hT
          refine mx_iast X Z hy3 h_9 dL_law_119 (fun H locs Z => ?_)
          rw [e_G_10] at Z
          obtain ⟨v_11, e_v_11, hT⟩ := mx_nm hT
          refine lv_iinc (v := v_11) (lv' := [(8, .int (v_11)), (0, .ref b), (1, .ref (mad E (240))), (2, .ref (mad E (246))), (3, .ref (mad E (247))), (4, .ref (mad E (248))), (5, .ref (mad E (249))), (6, .ref (mad E (250))), (7, .ref (mad E (251)))]) hx hb dL_law_120 hl (k := 8) rfl (by rw [← e_v_11]; rfl) (by decide) rfl (fun ls hl => ?_)
          refine lv_goto (tgt := 60) hx hb dL_law_123 (by decide) ?_
          exact ih _ _ _ _ _ _ hT Z (lv_sub hl [1, 2, 3, 4, 5, 6, 7, 8, 0] rfl) k0
        · replace hT := mx_t hT h_8
          refine lv_iconst (v := (1 : Int32)) hx hb dL_law_114 (by decide) ?_
          refine lv_goto (tgt := 119) hx hb dL_law_115 (by decide) ?_
          obtain ⟨h_12, hT⟩ := mx_chk hT
          obtain ⟨G_13, e_G_13, hT⟩ := mx_nm hT
          refine mx_iast X Z hy3 h_12 dL_law_119 (fun H locs Z => ?_)
          rw [e_G_13] at Z
          obtain ⟨v_14, e_v_14, hT⟩ := mx_nm hT
          refine lv_iinc (v := v_14) (lv' := [(8, .int (v_14)), (0, .ref b), (1, .ref (mad E (240))), (2, .ref (mad E (246))), (3, .ref (mad E (247))), (4, .ref (mad E (248))), (5, .ref (mad E (249))), (6, .ref (mad E (250))), (7, .ref (mad E (251)))]) hx hb dL_law_120 hl (k := 8) rfl (by rw [← e_v_14]; rfl) (by decide) rfl (fun ls hl => ?_)
          refine lv_goto (tgt := 60) hx hb dL_law_123 (by decide) ?_
          exact ih _ _ _ _ _ _ hT Z (lv_sub hl [1, 2, 3, 4, 5, 6, 7, 8, 0] rfl) k0
      · replace hT := mx_f hT h_5
        refine lv_iload hx hb dL_law_77 (lv_at hl 8 rfl) ?_
        refine lv_bipush (v := (6 : Int32)) hx hb dL_law_79 (by decide) ?_
        refine lv_icmp_ne (tgt := 88) hx hb dL_law_81 (by decide) (fun h_15 => ?_) (fun h_15 => ?_)
        · replace hT := mx_f hT h_15
          refine lv_iload hx hb dL_law_88 (lv_at hl 8 rfl) ?_
          refine lv_iconst (v := (3 : Int32)) hx hb dL_law_90 (by decide) ?_
          refine lv_icmp_ne (tgt := 98) hx hb dL_law_91 (by decide) (fun h_16 => ?_) (fun h_16 => ?_)
          · replace hT := mx_f hT h_16
            refine lv_iconst (v := (4 : Int32)) hx hb dL_law_98 (by decide) ?_
            obtain ⟨h_17, hT⟩ := mx_chk hT
            obtain ⟨G_18, e_G_18, hT⟩ := mx_nm hT
            refine mx_iast X Z hy3 h_17 dL_law_99 (fun H locs Z => ?_)
            rw [e_G_18] at Z
            refine lv_aload_n hx hb dL_law_100 rfl (lv_at hl 3 rfl) ?_
            refine lv_iconst (v := (3 : Int32)) hx hb dL_law_101 (by decide) ?_
            refine lv_iload hx hb dL_law_102 (lv_at hl 8 rfl) ?_
            refine lv_imul hx hb dL_law_104 ?_
            refine lv_iconst (v := (1 : Int32)) hx hb dL_law_105 (by decide) ?_
            refine lv_iadd hx hb dL_law_106 ?_
            refine lv_iload hx hb dL_law_107 (lv_at hl 8 rfl) ?_
            refine lv_iconst (v := (3 : Int32)) hx hb dL_law_109 (by decide) ?_
            refine lv_irem hx hb dL_law_110 (by decide) ?_
            refine lv_if_ne (tgt := 118) hx hb dL_law_111 (by decide) (fun h_19 => ?_) (fun h_19 => ?_)
            · replace hT := mx_f hT h_19
              refine lv_iconst (v := (0 : Int32)) hx hb dL_law_118 (by decide) ?_
              obtain ⟨h_20, hT⟩ := mx_chk hT
              obtain ⟨G_21, e_G_21, hT⟩ := mx_nm hT
              refine mx_iast X Z hy3 h_20 dL_law_119 (fun H locs Z => ?_)
              rw [e_G_21] at Z
              obtain ⟨v_22, e_v_22, hT⟩ := mx_nm hT
              refine lv_iinc (v := v_22) (lv' := [(8, .int (v_22)), (0, .ref b), (1, .ref (mad E (240))), (2, .ref (mad E (246))), (3, .ref (mad E (247))), (4, .ref (mad E (248))), (5, .ref (mad E (249))), (6, .ref (mad E (250))), (7, .ref (mad E (251)))]) hx hb dL_law_120 hl (k := 8) rfl (by rw [← e_v_22]; rfl) (by decide) rfl (fun ls hl => ?_)
              refine lv_goto (tgt := 60) hx hb dL_law_123 (by decide) ?_
              exact ih _ _ _ _ _ _ hT Z (lv_sub hl [1, 2, 3, 4, 5, 6, 7, 8, 0] rfl) k0
            · replace hT := mx_t hT h_19
              refine lv_iconst (v := (1 : Int32)) hx hb dL_law_114 (by decide) ?_
              refine lv_goto (tgt := 119) hx hb dL_law_115 (by decide) ?_
              obtain ⟨h_23, hT⟩ := mx_chk hT
              obtain ⟨G_24, e_G_24, hT⟩ := mx_nm hT
              refine mx_iast X Z hy3 h_23 dL_law_119 (fun H locs Z => ?_)
              rw [e_G_24] at Z
              obtain ⟨v_25, e_v_25, hT⟩ := mx_nm hT
              refine lv_iinc (v := v_25) (lv' := [(8, .int (v_25)), (0, .ref b), (1, .ref (mad E (240))), (2, .ref (mad E (246))), (3, .ref (mad E (247))), (4, .ref (mad E (248))), (5, .ref (mad E (249))), (6, .ref (mad E (250))), (7, .ref (mad E (251)))]) hx hb dL_law_120 hl (k := 8) rfl (by rw [← e_v_25]; rfl) (by decide) rfl (fun ls hl => ?_)
              refine lv_goto (tgt := 60) hx hb dL_law_123 (by decide) ?_
              exact ih _ _ _ _ _ _ hT Z (lv_sub hl [1, 2, 3, 4, 5, 6, 7, 8, 0] rfl) k0
          · replace hT := mx_t hT h_16
            refine lv_iconst (v := (2 : Int32)) hx hb dL_law_94 (by decide) ?_
            refine lv_goto (tgt := 99) hx hb dL_law_95 (by decide) ?_
            obtain ⟨h_26, hT⟩ := mx_chk hT
            obtain ⟨G_27, e_G_27, hT⟩ := mx_nm hT
            refine mx_iast X Z hy3 h_26 dL_law_99 (fun H locs Z => ?_)
            rw [e_G_27] at Z
            refine lv_aload_n hx hb dL_law_100 rfl (lv_at hl 3 rfl) ?_
            refine lv_iconst (v := (3 : Int32)) hx hb dL_law_101 (by decide) ?_
            refine lv_iload hx hb dL_law_102 (lv_at hl 8 rfl) ?_
            refine lv_imul hx hb dL_law_104 ?_
            refine lv_iconst (v := (1 : Int32)) hx hb dL_law_105 (by decide) ?_
            refine lv_iadd hx hb dL_law_106 ?_
            refine lv_iload hx hb dL_law_107 (lv_at hl 8 rfl) ?_
            refine lv_iconst (v := (3 : Int32)) hx hb dL_law_109 (by decide) ?_
            refine lv_irem hx hb dL_law_110 (by decide) ?_
            refine lv_if_ne (tgt := 118) hx hb dL_law_111 (by decide) (fun h_28 => ?_) (fun h_28 => ?_)
            · replace hT := mx_f hT h_28
              refine lv_iconst (v := (0 : Int32)) hx hb dL_law_118 (by decide) ?_
              obtain ⟨h_29, hT⟩ := mx_chk hT
              obtain ⟨G_30, e_G_30, hT⟩ := mx_nm hT
              refine mx_iast X Z hy3 h_29 dL_law_119 (fun H locs Z => ?_)
              rw [e_G_30] at Z
              obtain ⟨v_31, e_v_31, hT⟩ := mx_nm hT
              refine lv_iinc (v := v_31) (lv' := [(8, .int (v_31)), (0, .ref b), (1, .ref (mad E (240))), (2, .ref (mad E (246))), (3, .ref (mad E (247))), (4, .ref (mad E (248))), (5, .ref (mad E (249))), (6, .ref (mad E (250))), (7, .ref (mad E (251)))]) hx hb dL_law_120 hl (k := 8) rfl (by rw [← e_v_31]; rfl) (by decide) rfl (fun ls hl => ?_)
              refine lv_goto (tgt := 60) hx hb dL_law_123 (by decide) ?_
              exact ih _ _ _ _ _ _ hT Z (lv_sub hl [1, 2, 3, 4, 5, 6, 7, 8, 0] rfl) k0
            · replace hT := mx_t hT h_28
              refine lv_iconst (v := (1 : Int32)) hx hb dL_law_114 (by decide) ?_
              refine lv_goto (tgt := 119) hx hb dL_law_115 (by decide) ?_
              obtain ⟨h_32, hT⟩ := mx_chk hT
              obtain ⟨G_33, e_G_33, hT⟩ := mx_nm hT
              refine mx_iast X Z hy3 h_32 dL_law_119 (fun H locs Z => ?_)
              rw [e_G_33] at Z
              obtain ⟨v_34, e_v_34, hT⟩ := mx_nm hT
              refine lv_iinc (v := v_34) (lv' := [(8, .int (v_34)), (0, .ref b), (1, .ref (mad E (240))), (2, .ref (mad E (246))), (3, .ref (mad E (247))), (4, .ref (mad E (248))), (5, .ref (mad E (249))), (6, .ref (mad E (250))), (7, .ref (mad E (251)))]) hx hb dL_law_120 hl (k := 8) rfl (by rw [← e_v_34]; rfl) (by decide) rfl (fun ls hl => ?_)
              refine lv_goto (tgt := 60) hx hb dL_law_123 (by decide) ?_
              exact ih _ _ _ _ _ _ hT Z (lv_sub hl [1, 2, 3, 4, 5, 6, 7, 8, 0] rfl) k0
        · replace hT := mx_t hT h_15
          refine lv_iconst (v := (0 : Int32)) hx hb dL_law_84 (by decide) ?_
          refine lv_goto (tgt := 99) hx hb dL_law_85 (by decide) ?_
          obtain ⟨h_35, hT⟩ := mx_chk hT
          obtain ⟨G_36, e_G_36, hT⟩ := mx_nm hT
          refine mx_iast X Z hy3 h_35 dL_law_99 (fun H locs Z => ?_)
          rw [e_G_36] at Z
          refine lv_aload_n hx hb dL_law_100 rfl (lv_at hl 3 rfl) ?_
          refine lv_iconst (v := (3 : Int32)) hx hb dL_law_101 (by decide) ?_
          refine lv_iload hx hb dL_law_102 (lv_at hl 8 rfl) ?_
          refine lv_imul hx hb dL_law_104 ?_
          refine lv_iconst (v := (1 : Int32)) hx hb dL_law_105 (by decide) ?_
          refine lv_iadd hx hb dL_law_106 ?_
          refine lv_iload hx hb dL_law_107 (lv_at hl 8 rfl) ?_
          refine lv_iconst (v := (3 : Int32)) hx hb dL_law_109 (by decide) ?_
          refine lv_irem hx hb dL_law_110 (by decide) ?_
          refine lv_if_ne (tgt := 118) hx hb dL_law_111 (by decide) (fun h_37 => ?_) (fun h_37 => ?_)
          · replace hT := mx_f hT h_37
            refine lv_iconst (v := (0 : Int32)) hx hb dL_law_118 (by decide) ?_
            obtain ⟨h_38, hT⟩ := mx_chk hT
            obtain ⟨G_39, e_G_39, hT⟩ := mx_nm hT
            refine mx_iast X Z hy3 h_38 dL_law_119 (fun H locs Z => ?_)
            rw [e_G_39] at Z
            obtain ⟨v_40, e_v_40, hT⟩ := mx_nm hT
            refine lv_iinc (v := v_40) (lv' := [(8, .int (v_40)), (0, .ref b), (1, .ref (mad E (240))), (2, .ref (mad E (246))), (3, .ref (mad E (247))), (4, .ref (mad E (248))), (5, .ref (mad E (249))), (6, .ref (mad E (250))), (7, .ref (mad E (251)))]) hx hb dL_law_120 hl (k := 8) rfl (by rw [← e_v_40]; rfl) (by decide) rfl (fun ls hl => ?_)
            refine lv_goto (tgt := 60) hx hb dL_law_123 (by decide) ?_
            exact ih _ _ _ _ _ _ hT Z (lv_sub hl [1, 2, 3, 4, 5, 6, 7, 8, 0] rfl) k0
          · replace hT := mx_t hT h_37
            refine lv_iconst (v := (1 : Int32)) hx hb dL_law_114 (by decide) ?_
            refine lv_goto (tgt := 119) hx hb dL_law_115 (by decide) ?_
            obtain ⟨h_41, hT⟩ := mx_chk hT
            obtain ⟨G_42, e_G_42, hT⟩ := mx_nm hT
            refine mx_iast X Z hy3 h_41 dL_law_119 (fun H locs Z => ?_)
            rw [e_G_42] at Z
            obtain ⟨v_43, e_v_43, hT⟩ := mx_nm hT
            refine lv_iinc (v := v_43) (lv' := [(8, .int (v_43)), (0, .ref b), (1, .ref (mad E (240))), (2, .ref (mad E (246))), (3, .ref (mad E (247))), (4, .ref (mad E (248))), (5, .ref (mad E (249))), (6, .ref (mad E (250))), (7, .ref (mad E (251)))]) hx hb dL_law_120 hl (k := 8) rfl (by rw [← e_v_43]; rfl) (by decide) rfl (fun ls hl => ?_)
            refine lv_goto (tgt := 60) hx hb dL_law_123 (by decide) ?_
            exact ih _ _ _ _ _ _ hT Z (lv_sub hl [1, 2, 3, 4, 5, 6, 7, 8, 0] rfl) k0
set_option maxHeartbeats 4000000 in
set_option maxRecDepth 100000 in
theorem kL_law_161 {p : Program} {l : Launch} {e : Env} {R : Room} {s : State} {m : MethodId} {args : Array Value} {below : List Frame} {meth : Method} {cd : Code} {Q : State → Prop} {E : mE} (X : mX p s m args cd cL_law 12 RL E) (hR : 8 ≤ R.frames ∧ 199 ≤ R.locals) (hJ : mJ E) {cF sF : Nat} (hCF : cF ≤ R.cells ∧ sF ≤ R.slots) {b : Nat} (hI : mI E = List.range 252) {L : Nat} {xs : Nat → Int32} (hX : va_X b L xs s s.heap) (hbl : b < s.heap.size) (hbA : ¬ mA E b) (hL : L ≤ 260) (hy1 : mAl E 240) (hy2 : mAi E 246 1 10) (hy3 : mAi E 247 1 24) (hy4 : mAi E 248 1 40) (hy5 : mAi E 249 1 10) (hy6 : mAi E 250 1 24) (hy7 : mAi E 251 1 40) : ∀ (n : Nat) (w8 : Int32) (G : mM) (H : Heap) (locs : List Loc) (ls : Array Slot) (r : Nat × mM), xL_law_T_L161 L xs n w8 G = some r → mZ E s.heap H locs G → lv_has ls 12 [(0, .ref b), (1, .ref (mad E (240))), (2, .ref (mad E (246))), (3, .ref (mad E (247))), (4, .ref (mad E (248))), (5, .ref (mad E (249))), (6, .ref (mad E (250))), (7, .ref (mad E (251))), (8, .int (w8))] → ∀ (cN sN : Nat), cN + 3 * n ≤ cF ∧ sN + 74 * n ≤ sF → (r.1 = 0 → ∀ (H : Heap) (locs : List Loc) (ls : Array Slot), mZ E s.heap H locs r.2 → lv_has ls 12 [(0, .ref b), (1, .ref (mad E (240))), (2, .ref (mad E (246))), (3, .ref (mad E (247))), (4, .ref (mad E (248))), (5, .ref (mad E (249))), (6, .ref (mad E (250))), (7, .ref (mad E (251)))] → W p l e R s m args below meth cd H locs cF sF Q (F0 m 400 ls [])) → (r.1 = 1 → ∀ (H : Heap) (locs : List Loc) (ls : Array Slot), mZ E s.heap H locs r.2 → lv_has ls 12 [(0, .ref b), (1, .ref (mad E (240))), (2, .ref (mad E (246))), (3, .ref (mad E (247))), (4, .ref (mad E (248))), (5, .ref (mad E (249))), (6, .ref (mad E (250))), (7, .ref (mad E (251)))] → W p l e R s m args below meth cd H locs cF sF Q (F0 m 292 ls [])) → (r.1 = 2 → ∀ (H : Heap) (locs : List Loc) (ls : Array Slot), mZ E s.heap H locs r.2 → lv_has ls 12 [(0, .ref b), (1, .ref (mad E (240))), (2, .ref (mad E (246))), (3, .ref (mad E (247))), (4, .ref (mad E (248))), (5, .ref (mad E (249))), (6, .ref (mad E (250))), (7, .ref (mad E (251)))] → W p l e R s m args below meth cd H locs cF sF Q (F0 m 334 ls [])) → (r.1 = 3 → ∀ (H : Heap) (locs : List Loc) (ls : Array Slot), mZ E s.heap H locs r.2 → lv_has ls 12 [(0, .ref b), (1, .ref (mad E (240))), (2, .ref (mad E (246))), (3, .ref (mad E (247))), (4, .ref (mad E (248))), (5, .ref (mad E (249))), (6, .ref (mad E (250))), (7, .ref (mad E (251)))] → W p l e R s m args below meth cd H locs cF sF Q (F0 m 366 ls [])) → (r.1 = 4 → ∀ (H : Heap) (locs : List Loc) (ls : Array Slot), mZ E s.heap H locs r.2 → lv_has ls 12 [(0, .ref b), (1, .ref (mad E (240))), (2, .ref (mad E (246))), (3, .ref (mad E (247))), (4, .ref (mad E (248))), (5, .ref (mad E (249))), (6, .ref (mad E (250))), (7, .ref (mad E (251)))] → W p l e R s m args below meth cd H locs cF sF Q (F0 m 392 ls [])) → W p l e R s m args below meth cd H locs cN sN Q (F0 m 161 ls []) := by
  have hx := X.1
  have hb := X.2.1
  have hown := X.2.2.2.1
  have hts := X.2.2.2.2.1
  intro n
  induction n with
  | zero =>
    intro w8 G H locs ls r hT
    rw [xL_law_T_L161] at hT
    cases hT
  | succ n ih =>
    intro w8 G H locs ls r hT Z hl cN sN hF k0 k1 k2 k3 k4
    rw [xL_law_T_L161] at hT
    refine lv_iload hx hb dL_law_161 (lv_at hl 8 rfl) ?_
    refine lv_bipush (v := (26 : Int32)) hx hb dL_law_163 (by decide) ?_
    refine lv_icmp_ge (tgt := 400) hx hb dL_law_165 (by decide) (fun h_51 => ?_) (fun h_51 => ?_)
    · replace hT := mx_t hT h_51
      cases hT
      refine W.widen (k := cF) (n := sF) (by omega) (by omega) ?_
      exact k0 rfl _ _ _ Z (lv_sub hl [0, 1, 2, 3, 4, 5, 6, 7] rfl)
    · replace hT := mx_f hT h_51
      refine lv_aload_n hx hb dL_law_168 rfl (lv_at hl 0 rfl) ?_
      refine lv_iconst (v := (2 : Int32)) hx hb dL_law_169 (by decide) ?_
      refine lv_iload hx hb dL_law_170 (lv_at hl 8 rfl) ?_
      refine lv_imul hx hb dL_law_172 ?_
      obtain ⟨h_52, hT⟩ := mx_chk hT
      refine mx_cell X Z hX hbl hbA hL hl.1 h_52 ⟨Nat.le_trans (by decide) hR.1, Nat.le_trans (by decide) hR.2⟩ ⟨by omega, by omega⟩ (Nat.le_of_ble_eq_true rfl) wd_16_20 dL_law_173 (fun H locs Z => ?_)
      refine lv_ldc (v := (2147483647 : Int32)) hx hb hown (hts _ wd_1_4) dL_law_176 ?_
      refine lv_iand hx hb dL_law_178 ?_
      obtain ⟨v_53, e_v_53, hT⟩ := mx_nm hT
      refine mx_tops (congrArg (fun z => (.int (z) :: [] : List Value)) e_v_53) ?_
      refine lv_istore (lv' := [(9, .int (v_53)), (0, .ref b), (1, .ref (mad E (240))), (2, .ref (mad E (246))), (3, .ref (mad E (247))), (4, .ref (mad E (248))), (5, .ref (mad E (249))), (6, .ref (mad E (250))), (7, .ref (mad E (251))), (8, .int (w8))]) hx hb dL_law_179 hl (by decide) rfl (fun ls hl => ?_)
      refine lv_aload_n hx hb dL_law_181 rfl (lv_at hl 1 rfl) ?_
      refine lv_iconst (v := (2 : Int32)) hx hb dL_law_182 (by decide) ?_
      refine lv_iload hx hb dL_law_183 (lv_at hl 9 rfl) ?_
      refine lv_imul hx hb dL_law_185 ?_
      refine lv_iconst (v := (1 : Int32)) hx hb dL_law_186 (by decide) ?_
      refine lv_iadd hx hb dL_law_187 ?_
      obtain ⟨h_54, hT⟩ := mx_chk hT
      refine mx_cell X Z hX hbl hbA hL hl.1 h_54 ⟨Nat.le_trans (by decide) hR.1, Nat.le_trans (by decide) hR.2⟩ ⟨by omega, by omega⟩ (Nat.le_of_ble_eq_true rfl) wd_16_20 dL_law_188 (fun H locs Z => ?_)
      refine lv_ldc (v := (2147483647 : Int32)) hx hb hown (hts _ wd_1_4) dL_law_191 ?_
      refine lv_iand hx hb dL_law_193 ?_
      obtain ⟨v_55, e_v_55, hT⟩ := mx_nm hT
      refine mx_tops (congrArg (fun z => (.int (z) :: [] : List Value)) e_v_55) ?_
      refine lv_istore (lv' := [(10, .int (v_55)), (9, .int (v_53)), (0, .ref b), (1, .ref (mad E (240))), (2, .ref (mad E (246))), (3, .ref (mad E (247))), (4, .ref (mad E (248))), (5, .ref (mad E (249))), (6, .ref (mad E (250))), (7, .ref (mad E (251))), (8, .int (w8))]) hx hb dL_law_194 hl (by decide) rfl (fun ls hl => ?_)
      refine lv_aload_n hx hb dL_law_196 rfl (lv_at hl 4 rfl) ?_
      refine lv_aload hx hb dL_law_197 (lv_at hl 7 rfl) ?_
      obtain ⟨q_56, h_q_56, hT⟩ := mx_bind hT
      refine mx_callS (As := [.ref (mad E (246)), .ref (mad E (249))]) (rest := []) (st1 := []) X Z hl.1 (mL_copy l E hJ hy2 hy5 _ _ h_q_56) wd_17_0 wd_17_1 wd_10_7 wd_17_2 hdL_copy ⟨Nat.le_trans (by decide) hR.1, Nat.le_trans (by decide) hR.2⟩ ⟨by omega, by omega⟩ (Nat.le_of_ble_eq_true rfl) rfl rfl dL_law_199 (fun H locs Z => ?_)
      refine lv_aload_n hx hb dL_law_202 rfl (lv_at hl 5 rfl) ?_
      refine lv_aload hx hb dL_law_203 (lv_at hl 8 rfl) ?_
      obtain ⟨q_57, h_q_57, hT⟩ := mx_bind hT
      refine mx_callS (As := [.ref (mad E (247)), .ref (mad E (250))]) (rest := []) (st1 := []) X Z hl.1 (mL_copy l E hJ hy3 hy6 _ _ h_q_57) wd_17_0 wd_17_1 wd_10_7 wd_17_2 hdL_copy ⟨Nat.le_trans (by decide) hR.1, Nat.le_trans (by decide) hR.2⟩ ⟨by omega, by omega⟩ (Nat.le_of_ble_eq_true rfl) rfl rfl dL_law_205 (fun H locs Z => ?_)
      refine lv_aload hx hb dL_law_208 (lv_at hl 6 rfl) ?_
      refine lv_aload hx hb dL_law_210 (lv_at hl 9 rfl) ?_
      obtain ⟨q_58, h_q_58, hT⟩ := mx_bind hT
      refine mx_callS (As := [.ref (mad E (248)), .ref (mad E (251))]) (rest := []) (st1 := []) X Z hl.1 (mL_copy l E hJ hy4 hy7 _ _ h_q_58) wd_17_0 wd_17_1 wd_10_7 wd_17_2 hdL_copy ⟨Nat.le_trans (by decide) hR.1, Nat.le_trans (by decide) hR.2⟩ ⟨by omega, by omega⟩ (Nat.le_of_ble_eq_true rfl) rfl rfl dL_law_212 (fun H locs Z => ?_)
      refine lv_aload_n hx hb dL_law_215 rfl (lv_at hl 3 rfl) ?_
      refine lv_iconst (v := (5 : Int32)) hx hb dL_law_216 (by decide) ?_
      obtain ⟨q_59, h_q_59, hT⟩ := mx_bind hT
      refine mx_callV (As := [.int ((5 : Int32))]) (rest := []) (st1 := [.int (q_59)]) (C := RX5) (T := TX5) (N := 6) (ci := 5) X Z hl.1 (c5_count l E hJ hy1 _ _ _ h_q_59) wd_15_10 wd_15_11 wd_15_12 wd_1_2 wd_15_13 hd5_count ⟨Nat.le_trans (by decide) hR.1, Nat.le_trans (by decide) hR.2⟩ ⟨by omega, by omega⟩ hy1.i (hy1.c _) rfl (Nat.le_of_ble_eq_true rfl) rfl rfl dL_law_217 (fun H locs Z => ?_)
      refine lv_istore (lv' := [(11, .int (q_59)), (10, .int (v_55)), (9, .int (v_53)), (0, .ref b), (1, .ref (mad E (240))), (2, .ref (mad E (246))), (3, .ref (mad E (247))), (4, .ref (mad E (248))), (5, .ref (mad E (249))), (6, .ref (mad E (250))), (7, .ref (mad E (251))), (8, .int (w8))]) hx hb dL_law_220 hl (by decide) rfl (fun ls hl => ?_)
      refine lv_aload_n hx hb dL_law_222 rfl (lv_at hl 4 rfl) ?_
      refine lv_iload hx hb dL_law_223 (lv_at hl 11 rfl) ?_
      refine lv_iconst (v := (1 : Int32)) hx hb dL_law_225 (by decide) ?_
      refine lv_icmp_ne (tgt := 234) hx hb dL_law_226 (by decide) (fun h_60 => ?_) (fun h_60 => ?_)
      · replace hT := mx_f hT h_60
        refine lv_iload hx hb dL_law_234 (lv_at hl 11 rfl) ?_
        refine lv_iconst (v := (4 : Int32)) hx hb dL_law_236 (by decide) ?_
        refine lv_icmp_ge (tgt := 245) hx hb dL_law_237 (by decide) (fun h_61 => ?_) (fun h_61 => ?_)
        · replace hT := mx_t hT h_61
          refine lv_iload hx hb dL_law_245 (lv_at hl 11 rfl) ?_
          refine lv_bipush (v := (6 : Int32)) hx hb dL_law_247 (by decide) ?_
          refine lv_icmp_ge (tgt := 257) hx hb dL_law_249 (by decide) (fun h_62 => ?_) (fun h_62 => ?_)
          · replace hT := mx_t hT h_62
            refine lv_iload hx hb dL_law_257 (lv_at hl 2 rfl) ?_
            refine lv_bipush (v := (13 : Int32)) hx hb dL_law_259 (by decide) ?_
            refine lv_ishr hx hb dL_law_261 ?_
            refine lv_bipush (v := (18 : Int32)) hx hb dL_law_262 (by decide) ?_
            obtain ⟨q_63, h_q_63, hT⟩ := mx_bind hT
            refine mx_callS (As := [.int (v_53 >>> ((13 : Int32) &&& 31)), .int ((18 : Int32))]) (rest := [.ref (mad E (240))]) (st1 := [.int (q_63), .ref (mad E (240))]) X Z hl.1 (mL_at l E hJ _ _ _ _ h_q_63) wd_17_3 wd_17_4 wd_10_7 wd_17_5 hdL_at ⟨Nat.le_trans (by decide) hR.1, Nat.le_trans (by decide) hR.2⟩ ⟨by omega, by omega⟩ (Nat.le_of_ble_eq_true rfl) rfl rfl dL_law_264 (fun H locs Z => ?_)
            unfold xL_law_T_J267 at hT
            refine lv_iload hx hb dL_law_267 (lv_at hl 2 rfl) ?_
            refine lv_iload hx hb dL_law_269 (lv_at hl 1 rfl) ?_
            refine lv_aload_n hx hb dL_law_271 rfl (lv_at hl 5 rfl) ?_
            refine lv_aload_n hx hb dL_law_272 rfl (lv_at hl 6 rfl) ?_
            refine lv_aload hx hb dL_law_273 (lv_at hl 7 rfl) ?_
            obtain ⟨q_64, h_q_64, hT⟩ := mx_bind hT
            refine mx_callS (As := [.ref (mad E (240)), .int (q_63), .int (v_53), .int (v_55), .ref (mad E (246)), .ref (mad E (247)), .ref (mad E (248))]) (rest := []) (st1 := [.int (q_64.1)]) X Z hl.1 (mL_act l E hJ hy1 hy2 hy3 hy4 _ _ _ _ _ h_q_64) wd_17_6 wd_17_7 wd_10_7 wd_17_8 hdL_act ⟨Nat.le_trans (by decide) hR.1, Nat.le_trans (by decide) hR.2⟩ ⟨by omega, by omega⟩ (Nat.le_of_ble_eq_true rfl) rfl rfl dL_law_275 (fun H locs Z => ?_)
            refine lv_if_eq (tgt := 292) hx hb dL_law_278 (by decide) (fun h_65 => ?_) (fun h_65 => ?_)
            · replace hT := mx_t hT h_65
              cases hT
              refine W.widen (k := cF) (n := sF) (by omega) (by omega) ?_
              exact k1 rfl _ _ _ Z (lv_sub hl [3, 4, 5, 6, 7, 8, 9, 10] rfl)
            · replace hT := mx_f hT h_65
              refine lv_aload_n hx hb dL_law_281 rfl (lv_at hl 4 rfl) ?_
              refine lv_aload_n hx hb dL_law_282 rfl (lv_at hl 5 rfl) ?_
              refine lv_aload_n hx hb dL_law_283 rfl (lv_at hl 6 rfl) ?_
              refine lv_aload hx hb dL_law_284 (lv_at hl 7 rfl) ?_
              obtain ⟨q_66, h_q_66, hT⟩ := mx_bind hT
              refine mx_callS (As := [.ref (mad E (240)), .ref (mad E (246)), .ref (mad E (247)), .ref (mad E (248))]) (rest := []) (st1 := [.int (q_66)]) X Z hl.1 (mL_told l E hJ hy1 hy2 hy3 hy4 _ _ h_q_66) wd_10_5 wd_10_6 wd_10_7 wd_10_8 hdL_told ⟨Nat.le_trans (by decide) hR.1, Nat.le_trans (by decide) hR.2⟩ ⟨by omega, by omega⟩ (Nat.le_of_ble_eq_true rfl) rfl rfl dL_law_286 (fun H locs Z => ?_)
              refine lv_if_ne (tgt := 294) hx hb dL_law_289 (by decide) (fun h_67 => ?_) (fun h_67 => ?_)
              · replace hT := mx_f hT h_67
                refine lv_iload hx hb dL_law_294 (lv_at hl 0 rfl) ?_
                refine lv_bipush (v := (8 : Int32)) hx hb dL_law_296 (by decide) ?_
                refine lv_icmp_ge (tgt := 368) hx hb dL_law_298 (by decide) (fun h_68 => ?_) (fun h_68 => ?_)
                · replace hT := mx_t hT h_68
                  unfold xL_law_T_J368 at hT
                  refine lv_iload hx hb dL_law_368 (lv_at hl 11 rfl) ?_
                  refine lv_bipush (v := (6 : Int32)) hx hb dL_law_370 (by decide) ?_
                  refine lv_irem hx hb dL_law_372 (by decide) ?_
                  refine lv_iconst (v := (5 : Int32)) hx hb dL_law_373 (by decide) ?_
                  refine lv_icmp_ne (tgt := 394) hx hb dL_law_374 (by decide) (fun h_69 => ?_) (fun h_69 => ?_)
                  · replace hT := mx_f hT h_69
                    obtain ⟨v_70, e_v_70, hT⟩ := mx_nm hT
                    refine lv_iinc (v := v_70) (lv' := [(8, .int (v_70)), (11, .int (q_59)), (10, .int (v_55)), (9, .int (v_53)), (0, .ref b), (1, .ref (mad E (240))), (2, .ref (mad E (246))), (3, .ref (mad E (247))), (4, .ref (mad E (248))), (5, .ref (mad E (249))), (6, .ref (mad E (250))), (7, .ref (mad E (251)))]) hx hb dL_law_394 hl (k := 11) rfl (by rw [← e_v_70]; rfl) (by decide) rfl (fun ls hl => ?_)
                    refine lv_goto (tgt := 161) hx hb dL_law_397 (by decide) ?_
                    exact ih _ _ _ _ _ _ hT Z (lv_sub hl [4, 5, 6, 7, 8, 9, 10, 11, 0] rfl) _ _ ⟨by omega, by omega⟩ k0 k1 k2 k3 k4
                  · replace hT := mx_t hT h_69
                    refine lv_aload_n hx hb dL_law_377 rfl (lv_at hl 4 rfl) ?_
                    refine lv_iload hx hb dL_law_378 (lv_at hl 1 rfl) ?_
                    refine lv_iconst (v := (2 : Int32)) hx hb dL_law_380 (by decide) ?_
                    refine lv_ishr hx hb dL_law_381 ?_
                    refine lv_aload_n hx hb dL_law_382 rfl (lv_at hl 5 rfl) ?_
                    refine lv_aload_n hx hb dL_law_383 rfl (lv_at hl 6 rfl) ?_
                    refine lv_aload hx hb dL_law_384 (lv_at hl 7 rfl) ?_
                    obtain ⟨h_71, hT⟩ := mx_chk hT
                    obtain ⟨q_72, h_q_72, hT⟩ := mx_bind hT
                    obtain ⟨h_73, hT⟩ := mx_chk hT
                    refine mx_callSN (cells := cN) (slots := sN) (As := [.ref (mad E (240)), .int (v_55 >>> ((2 : Int32) &&& 31)), .ref (mad E (246)), .ref (mad E (247)), .ref (mad E (248))]) (rest := []) (st1 := [.int q_72.1]) X Z hl.1 (mL_ahead l E hJ hI _ _ _ h_q_72 h_71 h_73) wd_23_3 wd_23_4 wd_10_7 wd_23_5 hdL_ahead ⟨Nat.le_trans (by decide) hR.1, Nat.le_trans (by decide) hR.2⟩ ⟨by omega, by omega⟩ (Nat.le_of_ble_eq_true rfl) rfl rfl dL_law_386 (fun H locs Z => ?_)
                    refine lv_if_ne (tgt := 394) hx hb dL_law_389 (by decide) (fun h_74 => ?_) (fun h_74 => ?_)
                    · replace hT := mx_f hT h_74
                      obtain ⟨v_75, e_v_75, hT⟩ := mx_nm hT
                      refine lv_iinc (v := v_75) (lv' := [(8, .int (v_75)), (11, .int (q_59)), (10, .int (v_55)), (9, .int (v_53)), (0, .ref b), (1, .ref (mad E (240))), (2, .ref (mad E (246))), (3, .ref (mad E (247))), (4, .ref (mad E (248))), (5, .ref (mad E (249))), (6, .ref (mad E (250))), (7, .ref (mad E (251)))]) hx hb dL_law_394 hl (k := 11) rfl (by rw [← e_v_75]; rfl) (by decide) rfl (fun ls hl => ?_)
                      refine lv_goto (tgt := 161) hx hb dL_law_397 (by decide) ?_
                      exact ih _ _ _ _ _ _ hT Z (lv_sub hl [4, 5, 6, 7, 8, 9, 10, 11, 0] rfl) _ _ ⟨by omega, by omega⟩ k0 k1 k2 k3 k4
                    · replace hT := mx_t hT h_74
                      cases hT
                      refine W.widen (k := cF) (n := sF) (by omega) (by omega) ?_
                      exact k4 rfl _ _ _ Z (lv_sub hl [3, 4, 5, 6, 7, 8, 9, 10] rfl)
                · replace hT := mx_f hT h_68
                  refine lv_aload_n hx hb dL_law_301 rfl (lv_at hl 4 rfl) ?_
                  refine lv_iconst (v := (5 : Int32)) hx hb dL_law_302 (by decide) ?_
                  obtain ⟨q_76, h_q_76, hT⟩ := mx_bind hT
                  refine mx_callV (As := [.int ((5 : Int32))]) (rest := []) (st1 := [.int (q_76)]) (C := RX5) (T := TX5) (N := 6) (ci := 5) X Z hl.1 (c5_count l E hJ hy1 _ _ _ h_q_76) wd_15_10 wd_15_11 wd_15_12 wd_1_2 wd_15_13 hd5_count ⟨Nat.le_trans (by decide) hR.1, Nat.le_trans (by decide) hR.2⟩ ⟨by omega, by omega⟩ hy1.i (hy1.c _) rfl (Nat.le_of_ble_eq_true rfl) rfl rfl dL_law_303 (fun H locs Z => ?_)
                  refine lv_iload hx hb dL_law_306 (lv_at hl 0 rfl) ?_
                  refine lv_iconst (v := (1 : Int32)) hx hb dL_law_308 (by decide) ?_
                  refine lv_iadd hx hb dL_law_309 ?_
                  refine lv_icmp_ne (tgt := 368) hx hb dL_law_310 (by decide) (fun h_77 => ?_) (fun h_77 => ?_)
                  · replace hT := mx_f hT h_77
                    unfold xL_law_T_J368 at hT
                    refine lv_iload hx hb dL_law_368 (lv_at hl 11 rfl) ?_
                    refine lv_bipush (v := (6 : Int32)) hx hb dL_law_370 (by decide) ?_
                    refine lv_irem hx hb dL_law_372 (by decide) ?_
                    refine lv_iconst (v := (5 : Int32)) hx hb dL_law_373 (by decide) ?_
                    refine lv_icmp_ne (tgt := 394) hx hb dL_law_374 (by decide) (fun h_78 => ?_) (fun h_78 => ?_)
                    · replace hT := mx_f hT h_78
                      obtain ⟨v_79, e_v_79, hT⟩ := mx_nm hT
                      refine lv_iinc (v := v_79) (lv' := [(8, .int (v_79)), (11, .int (q_59)), (10, .int (v_55)), (9, .int (v_53)), (0, .ref b), (1, .ref (mad E (240))), (2, .ref (mad E (246))), (3, .ref (mad E (247))), (4, .ref (mad E (248))), (5, .ref (mad E (249))), (6, .ref (mad E (250))), (7, .ref (mad E (251)))]) hx hb dL_law_394 hl (k := 11) rfl (by rw [← e_v_79]; rfl) (by decide) rfl (fun ls hl => ?_)
                      refine lv_goto (tgt := 161) hx hb dL_law_397 (by decide) ?_
                      exact ih _ _ _ _ _ _ hT Z (lv_sub hl [4, 5, 6, 7, 8, 9, 10, 11, 0] rfl) _ _ ⟨by omega, by omega⟩ k0 k1 k2 k3 k4
                    · replace hT := mx_t hT h_78
                      refine lv_aload_n hx hb dL_law_377 rfl (lv_at hl 4 rfl) ?_
                      refine lv_iload hx hb dL_law_378 (lv_at hl 1 rfl) ?_
                      refine lv_iconst (v := (2 : Int32)) hx hb dL_law_380 (by decide) ?_
                      refine lv_ishr hx hb dL_law_381 ?_
                      refine lv_aload_n hx hb dL_law_382 rfl (lv_at hl 5 rfl) ?_
                      refine lv_aload_n hx hb dL_law_383 rfl (lv_at hl 6 rfl) ?_
                      refine lv_aload hx hb dL_law_384 (lv_at hl 7 rfl) ?_
                      obtain ⟨h_80, hT⟩ := mx_chk hT
                      obtain ⟨q_81, h_q_81, hT⟩ := mx_bind hT
                      obtain ⟨h_82, hT⟩ := mx_chk hT
                      refine mx_callSN (cells := cN) (slots := sN) (As := [.ref (mad E (240)), .int (v_55 >>> ((2 : Int32) &&& 31)), .ref (mad E (246)), .ref (mad E (247)), .ref (mad E (248))]) (rest := []) (st1 := [.int q_81.1]) X Z hl.1 (mL_ahead l E hJ hI _ _ _ h_q_81 h_80 h_82) wd_23_3 wd_23_4 wd_10_7 wd_23_5 hdL_ahead ⟨Nat.le_trans (by decide) hR.1, Nat.le_trans (by decide) hR.2⟩ ⟨by omega, by omega⟩ (Nat.le_of_ble_eq_true rfl) rfl rfl dL_law_386 (fun H locs Z => ?_)
                      refine lv_if_ne (tgt := 394) hx hb dL_law_389 (by decide) (fun h_83 => ?_) (fun h_83 => ?_)
                      · replace hT := mx_f hT h_83
                        obtain ⟨v_84, e_v_84, hT⟩ := mx_nm hT
                        refine lv_iinc (v := v_84) (lv' := [(8, .int (v_84)), (11, .int (q_59)), (10, .int (v_55)), (9, .int (v_53)), (0, .ref b), (1, .ref (mad E (240))), (2, .ref (mad E (246))), (3, .ref (mad E (247))), (4, .ref (mad E (248))), (5, .ref (mad E (249))), (6, .ref (mad E (250))), (7, .ref (mad E (251)))]) hx hb dL_law_394 hl (k := 11) rfl (by rw [← e_v_84]; rfl) (by decide) rfl (fun ls hl => ?_)
                        refine lv_goto (tgt := 161) hx hb dL_law_397 (by decide) ?_
                        exact ih _ _ _ _ _ _ hT Z (lv_sub hl [4, 5, 6, 7, 8, 9, 10, 11, 0] rfl) _ _ ⟨by omega, by omega⟩ k0 k1 k2 k3 k4
                      · replace hT := mx_t hT h_83
                        cases hT
                        refine W.widen (k := cF) (n := sF) (by omega) (by omega) ?_
                        exact k4 rfl _ _ _ Z (lv_sub hl [3, 4, 5, 6, 7, 8, 9, 10] rfl)
                  · replace hT := mx_t hT h_77
                    refine lv_iload hx hb dL_law_313 (lv_at hl 1 rfl) ?_
                    refine lv_bipush (v := (12 : Int32)) hx hb dL_law_315 (by decide) ?_
                    refine lv_ishr hx hb dL_law_317 ?_
                    refine lv_iconst (v := (5 : Int32)) hx hb dL_law_318 (by decide) ?_
                    obtain ⟨q_85, h_q_85, hT⟩ := mx_bind hT
                    refine mx_callS (As := [.int (v_55 >>> ((12 : Int32) &&& 31)), .int ((5 : Int32))]) (rest := []) (st1 := [.int (q_85)]) X Z hl.1 (mL_at l E hJ _ _ _ _ h_q_85) wd_17_3 wd_17_4 wd_10_7 wd_17_5 hdL_at ⟨Nat.le_trans (by decide) hR.1, Nat.le_trans (by decide) hR.2⟩ ⟨by omega, by omega⟩ (Nat.le_of_ble_eq_true rfl) rfl rfl dL_law_319 (fun H locs Z => ?_)
                    refine lv_if_ne (tgt := 368) hx hb dL_law_322 (by decide) (fun h_86 => ?_) (fun h_86 => ?_)
                    · replace hT := mx_f hT h_86
                      unfold xL_law_T_J368 at hT
                      refine lv_iload hx hb dL_law_368 (lv_at hl 11 rfl) ?_
                      refine lv_bipush (v := (6 : Int32)) hx hb dL_law_370 (by decide) ?_
                      refine lv_irem hx hb dL_law_372 (by decide) ?_
                      refine lv_iconst (v := (5 : Int32)) hx hb dL_law_373 (by decide) ?_
                      refine lv_icmp_ne (tgt := 394) hx hb dL_law_374 (by decide) (fun h_87 => ?_) (fun h_87 => ?_)
                      · replace hT := mx_f hT h_87
                        obtain ⟨v_88, e_v_88, hT⟩ := mx_nm hT
                        refine lv_iinc (v := v_88) (lv' := [(8, .int (v_88)), (11, .int (q_59)), (10, .int (v_55)), (9, .int (v_53)), (0, .ref b), (1, .ref (mad E (240))), (2, .ref (mad E (246))), (3, .ref (mad E (247))), (4, .ref (mad E (248))), (5, .ref (mad E (249))), (6, .ref (mad E (250))), (7, .ref (mad E (251)))]) hx hb dL_law_394 hl (k := 11) rfl (by rw [← e_v_88]; rfl) (by decide) rfl (fun ls hl => ?_)
                        refine lv_goto (tgt := 161) hx hb dL_law_397 (by decide) ?_
                        exact ih _ _ _ _ _ _ hT Z (lv_sub hl [4, 5, 6, 7, 8, 9, 10, 11, 0] rfl) _ _ ⟨by omega, by omega⟩ k0 k1 k2 k3 k4
                      · replace hT := mx_t hT h_87
                        refine lv_aload_n hx hb dL_law_377 rfl (lv_at hl 4 rfl) ?_
                        refine lv_iload hx hb dL_law_378 (lv_at hl 1 rfl) ?_
                        refine lv_iconst (v := (2 : Int32)) hx hb dL_law_380 (by decide) ?_
                        refine lv_ishr hx hb dL_law_381 ?_
                        refine lv_aload_n hx hb dL_law_382 rfl (lv_at hl 5 rfl) ?_
                        refine lv_aload_n hx hb dL_law_383 rfl (lv_at hl 6 rfl) ?_
                        refine lv_aload hx hb dL_law_384 (lv_at hl 7 rfl) ?_
                        obtain ⟨h_89, hT⟩ := mx_chk hT
                        obtain ⟨q_90, h_q_90, hT⟩ := mx_bind hT
                        obtain ⟨h_91, hT⟩ := mx_chk hT
                        refine mx_callSN (cells := cN) (slots := sN) (As := [.ref (mad E (240)), .int (v_55 >>> ((2 : Int32) &&& 31)), .ref (mad E (246)), .ref (mad E (247)), .ref (mad E (248))]) (rest := []) (st1 := [.int q_90.1]) X Z hl.1 (mL_ahead l E hJ hI _ _ _ h_q_90 h_89 h_91) wd_23_3 wd_23_4 wd_10_7 wd_23_5 hdL_ahead ⟨Nat.le_trans (by decide) hR.1, Nat.le_trans (by decide) hR.2⟩ ⟨by omega, by omega⟩ (Nat.le_of_ble_eq_true rfl) rfl rfl dL_law_386 (fun H locs Z => ?_)
                        refine lv_if_ne (tgt := 394) hx hb dL_law_389 (by decide) (fun h_92 => ?_) (fun h_92 => ?_)
                        · replace hT := mx_f hT h_92
                          obtain ⟨v_93, e_v_93, hT⟩ := mx_nm hT
                          refine lv_iinc (v := v_93) (lv' := [(8, .int (v_93)), (11, .int (q_59)), (10, .int (v_55)), (9, .int (v_53)), (0, .ref b), (1, .ref (mad E (240))), (2, .ref (mad E (246))), (3, .ref (mad E (247))), (4, .ref (mad E (248))), (5, .ref (mad E (249))), (6, .ref (mad E (250))), (7, .ref (mad E (251)))]) hx hb dL_law_394 hl (k := 11) rfl (by rw [← e_v_93]; rfl) (by decide) rfl (fun ls hl => ?_)
                          refine lv_goto (tgt := 161) hx hb dL_law_397 (by decide) ?_
                          exact ih _ _ _ _ _ _ hT Z (lv_sub hl [4, 5, 6, 7, 8, 9, 10, 11, 0] rfl) _ _ ⟨by omega, by omega⟩ k0 k1 k2 k3 k4
                        · replace hT := mx_t hT h_92
                          cases hT
                          refine W.widen (k := cF) (n := sF) (by omega) (by omega) ?_
                          exact k4 rfl _ _ _ Z (lv_sub hl [3, 4, 5, 6, 7, 8, 9, 10] rfl)
                    · replace hT := mx_t hT h_86
                      refine lv_aload_n hx hb dL_law_325 rfl (lv_at hl 4 rfl) ?_
                      obtain ⟨q_94, h_q_94, hT⟩ := mx_bind hT
                      refine mx_callV (As := []) (rest := []) (st1 := [.int (q_94.1)]) (C := RX5) (T := TX5) (N := 6) (ci := 5) X Z hl.1 (c5_undo l E hJ hy1 _ _ h_q_94) wd_7_17 wd_7_18 wd_7_19 wd_1_2 wd_7_20 hd5_undo ⟨Nat.le_trans (by decide) hR.1, Nat.le_trans (by decide) hR.2⟩ ⟨by omega, by omega⟩ hy1.i (hy1.c _) rfl (Nat.le_of_ble_eq_true rfl) rfl rfl dL_law_326 (fun H locs Z => ?_)
                      refine lv_iload hx hb dL_law_329 (lv_at hl 0 rfl) ?_
                      refine lv_icmp_eq (tgt := 336) hx hb dL_law_331 (by decide) (fun h_95 => ?_) (fun h_95 => ?_)
                      · replace hT := mx_t hT h_95
                        refine lv_aload hx hb dL_law_336 (lv_at hl 8 rfl) ?_
                        refine lv_aload_n hx hb dL_law_338 rfl (lv_at hl 5 rfl) ?_
                        obtain ⟨q_96, h_q_96, hT⟩ := mx_bind hT
                        refine mx_callS (As := [.ref (mad E (249)), .ref (mad E (246))]) (rest := []) (st1 := []) X Z hl.1 (mL_copy l E hJ hy5 hy2 _ _ h_q_96) wd_17_0 wd_17_1 wd_10_7 wd_17_2 hdL_copy ⟨Nat.le_trans (by decide) hR.1, Nat.le_trans (by decide) hR.2⟩ ⟨by omega, by omega⟩ (Nat.le_of_ble_eq_true rfl) rfl rfl dL_law_339 (fun H locs Z => ?_)
                        refine lv_aload hx hb dL_law_342 (lv_at hl 9 rfl) ?_
                        refine lv_aload_n hx hb dL_law_344 rfl (lv_at hl 6 rfl) ?_
                        obtain ⟨q_97, h_q_97, hT⟩ := mx_bind hT
                        refine mx_callS (As := [.ref (mad E (250)), .ref (mad E (247))]) (rest := []) (st1 := []) X Z hl.1 (mL_copy l E hJ hy6 hy3 _ _ h_q_97) wd_17_0 wd_17_1 wd_10_7 wd_17_2 hdL_copy ⟨Nat.le_trans (by decide) hR.1, Nat.le_trans (by decide) hR.2⟩ ⟨by omega, by omega⟩ (Nat.le_of_ble_eq_true rfl) rfl rfl dL_law_345 (fun H locs Z => ?_)
                        refine lv_aload hx hb dL_law_348 (lv_at hl 10 rfl) ?_
                        refine lv_aload hx hb dL_law_350 (lv_at hl 7 rfl) ?_
                        obtain ⟨q_98, h_q_98, hT⟩ := mx_bind hT
                        refine mx_callS (As := [.ref (mad E (251)), .ref (mad E (248))]) (rest := []) (st1 := []) X Z hl.1 (mL_copy l E hJ hy7 hy4 _ _ h_q_98) wd_17_0 wd_17_1 wd_10_7 wd_17_2 hdL_copy ⟨Nat.le_trans (by decide) hR.1, Nat.le_trans (by decide) hR.2⟩ ⟨by omega, by omega⟩ (Nat.le_of_ble_eq_true rfl) rfl rfl dL_law_352 (fun H locs Z => ?_)
                        refine lv_aload_n hx hb dL_law_355 rfl (lv_at hl 4 rfl) ?_
                        refine lv_aload_n hx hb dL_law_356 rfl (lv_at hl 5 rfl) ?_
                        refine lv_aload_n hx hb dL_law_357 rfl (lv_at hl 6 rfl) ?_
                        refine lv_aload hx hb dL_law_358 (lv_at hl 7 rfl) ?_
                        obtain ⟨q_99, h_q_99, hT⟩ := mx_bind hT
                        refine mx_callS (As := [.ref (mad E (240)), .ref (mad E (246)), .ref (mad E (247)), .ref (mad E (248))]) (rest := []) (st1 := [.int (q_99)]) X Z hl.1 (mL_told l E hJ hy1 hy2 hy3 hy4 _ _ h_q_99) wd_10_5 wd_10_6 wd_10_7 wd_10_8 hdL_told ⟨Nat.le_trans (by decide) hR.1, Nat.le_trans (by decide) hR.2⟩ ⟨by omega, by omega⟩ (Nat.le_of_ble_eq_true rfl) rfl rfl dL_law_360 (fun H locs Z => ?_)
                        refine lv_if_ne (tgt := 368) hx hb dL_law_363 (by decide) (fun h_100 => ?_) (fun h_100 => ?_)
                        · replace hT := mx_f hT h_100
                          unfold xL_law_T_J368 at hT
                          refine lv_iload hx hb dL_law_368 (lv_at hl 11 rfl) ?_
                          refine lv_bipush (v := (6 : Int32)) hx hb dL_law_370 (by decide) ?_
                          refine lv_irem hx hb dL_law_372 (by decide) ?_
                          refine lv_iconst (v := (5 : Int32)) hx hb dL_law_373 (by decide) ?_
                          refine lv_icmp_ne (tgt := 394) hx hb dL_law_374 (by decide) (fun h_101 => ?_) (fun h_101 => ?_)
                          · replace hT := mx_f hT h_101
                            obtain ⟨v_102, e_v_102, hT⟩ := mx_nm hT
                            refine lv_iinc (v := v_102) (lv' := [(8, .int (v_102)), (11, .int (q_59)), (10, .int (v_55)), (9, .int (v_53)), (0, .ref b), (1, .ref (mad E (240))), (2, .ref (mad E (246))), (3, .ref (mad E (247))), (4, .ref (mad E (248))), (5, .ref (mad E (249))), (6, .ref (mad E (250))), (7, .ref (mad E (251)))]) hx hb dL_law_394 hl (k := 11) rfl (by rw [← e_v_102]; rfl) (by decide) rfl (fun ls hl => ?_)
                            refine lv_goto (tgt := 161) hx hb dL_law_397 (by decide) ?_
                            exact ih _ _ _ _ _ _ hT Z (lv_sub hl [4, 5, 6, 7, 8, 9, 10, 11, 0] rfl) _ _ ⟨by omega, by omega⟩ k0 k1 k2 k3 k4
                          · replace hT := mx_t hT h_101
                            refine lv_aload_n hx hb dL_law_377 rfl (lv_at hl 4 rfl) ?_
                            refine lv_iload hx hb dL_law_378 (lv_at hl 1 rfl) ?_
                            refine lv_iconst (v := (2 : Int32)) hx hb dL_law_380 (by decide) ?_
                            refine lv_ishr hx hb dL_law_381 ?_
                            refine lv_aload_n hx hb dL_law_382 rfl (lv_at hl 5 rfl) ?_
                            refine lv_aload_n hx hb dL_law_383 rfl (lv_at hl 6 rfl) ?_
                            refine lv_aload hx hb dL_law_384 (lv_at hl 7 rfl) ?_
                            obtain ⟨h_103, hT⟩ := mx_chk hT
                            obtain ⟨q_104, h_q_104, hT⟩ := mx_bind hT
                            obtain ⟨h_105, hT⟩ := mx_chk hT
                            refine mx_callSN (cells := cN) (slots := sN) (As := [.ref (mad E (240)), .int (v_55 >>> ((2 : Int32) &&& 31)), .ref (mad E (246)), .ref (mad E (247)), .ref (mad E (248))]) (rest := []) (st1 := [.int q_104.1]) X Z hl.1 (mL_ahead l E hJ hI _ _ _ h_q_104 h_103 h_105) wd_23_3 wd_23_4 wd_10_7 wd_23_5 hdL_ahead ⟨Nat.le_trans (by decide) hR.1, Nat.le_trans (by decide) hR.2⟩ ⟨by omega, by omega⟩ (Nat.le_of_ble_eq_true rfl) rfl rfl dL_law_386 (fun H locs Z => ?_)
                            refine lv_if_ne (tgt := 394) hx hb dL_law_389 (by decide) (fun h_106 => ?_) (fun h_106 => ?_)
                            · replace hT := mx_f hT h_106
                              obtain ⟨v_107, e_v_107, hT⟩ := mx_nm hT
                              refine lv_iinc (v := v_107) (lv' := [(8, .int (v_107)), (11, .int (q_59)), (10, .int (v_55)), (9, .int (v_53)), (0, .ref b), (1, .ref (mad E (240))), (2, .ref (mad E (246))), (3, .ref (mad E (247))), (4, .ref (mad E (248))), (5, .ref (mad E (249))), (6, .ref (mad E (250))), (7, .ref (mad E (251)))]) hx hb dL_law_394 hl (k := 11) rfl (by rw [← e_v_107]; rfl) (by decide) rfl (fun ls hl => ?_)
                              refine lv_goto (tgt := 161) hx hb dL_law_397 (by decide) ?_
                              exact ih _ _ _ _ _ _ hT Z (lv_sub hl [4, 5, 6, 7, 8, 9, 10, 11, 0] rfl) _ _ ⟨by omega, by omega⟩ k0 k1 k2 k3 k4
                            · replace hT := mx_t hT h_106
                              cases hT
                              refine W.widen (k := cF) (n := sF) (by omega) (by omega) ?_
                              exact k4 rfl _ _ _ Z (lv_sub hl [3, 4, 5, 6, 7, 8, 9, 10] rfl)
                        · replace hT := mx_t hT h_100
                          cases hT
                          refine W.widen (k := cF) (n := sF) (by omega) (by omega) ?_
                          exact k3 rfl _ _ _ Z (lv_sub hl [3, 4, 5, 6, 7, 8, 9, 10] rfl)
                      · replace hT := mx_f hT h_95
                        cases hT
                        refine W.widen (k := cF) (n := sF) (by omega) (by omega) ?_
                        exact k2 rfl _ _ _ Z (lv_sub hl [3, 4, 5, 6, 7, 8, 9, 10] rfl)
              · replace hT := mx_t hT h_67
                cases hT
                refine W.widen (k := cF) (n := sF) (by omega) (by omega) ?_
                exact k1 rfl _ _ _ Z (lv_sub hl [3, 4, 5, 6, 7, 8, 9, 10] rfl)
          · replace hT := mx_f hT h_62
            refine lv_bipush (v := (7 : Int32)) hx hb dL_law_252 (by decide) ?_
            refine lv_goto (tgt := 267) hx hb dL_law_254 (by decide) ?_
            unfold xL_law_T_J267 at hT
            refine lv_iload hx hb dL_law_267 (lv_at hl 2 rfl) ?_
            refine lv_iload hx hb dL_law_269 (lv_at hl 1 rfl) ?_
            refine lv_aload_n hx hb dL_law_271 rfl (lv_at hl 5 rfl) ?_
            refine lv_aload_n hx hb dL_law_272 rfl (lv_at hl 6 rfl) ?_
            refine lv_aload hx hb dL_law_273 (lv_at hl 7 rfl) ?_
            obtain ⟨q_108, h_q_108, hT⟩ := mx_bind hT
            refine mx_callS (As := [.ref (mad E (240)), .int ((7 : Int32)), .int (v_53), .int (v_55), .ref (mad E (246)), .ref (mad E (247)), .ref (mad E (248))]) (rest := []) (st1 := [.int (q_108.1)]) X Z hl.1 (mL_act l E hJ hy1 hy2 hy3 hy4 _ _ _ _ _ h_q_108) wd_17_6 wd_17_7 wd_10_7 wd_17_8 hdL_act ⟨Nat.le_trans (by decide) hR.1, Nat.le_trans (by decide) hR.2⟩ ⟨by omega, by omega⟩ (Nat.le_of_ble_eq_true rfl) rfl rfl dL_law_275 (fun H locs Z => ?_)
            refine lv_if_eq (tgt := 292) hx hb dL_law_278 (by decide) (fun h_109 => ?_) (fun h_109 => ?_)
            · replace hT := mx_t hT h_109
              cases hT
              refine W.widen (k := cF) (n := sF) (by omega) (by omega) ?_
              exact k1 rfl _ _ _ Z (lv_sub hl [3, 4, 5, 6, 7, 8, 9, 10] rfl)
            · replace hT := mx_f hT h_109
              refine lv_aload_n hx hb dL_law_281 rfl (lv_at hl 4 rfl) ?_
              refine lv_aload_n hx hb dL_law_282 rfl (lv_at hl 5 rfl) ?_
              refine lv_aload_n hx hb dL_law_283 rfl (lv_at hl 6 rfl) ?_
              refine lv_aload hx hb dL_law_284 (lv_at hl 7 rfl) ?_
              obtain ⟨q_110, h_q_110, hT⟩ := mx_bind hT
              refine mx_callS (As := [.ref (mad E (240)), .ref (mad E (246)), .ref (mad E (247)), .ref (mad E (248))]) (rest := []) (st1 := [.int (q_110)]) X Z hl.1 (mL_told l E hJ hy1 hy2 hy3 hy4 _ _ h_q_110) wd_10_5 wd_10_6 wd_10_7 wd_10_8 hdL_told ⟨Nat.le_trans (by decide) hR.1, Nat.le_trans (by decide) hR.2⟩ ⟨by omega, by omega⟩ (Nat.le_of_ble_eq_true rfl) rfl rfl dL_law_286 (fun H locs Z => ?_)
              refine lv_if_ne (tgt := 294) hx hb dL_law_289 (by decide) (fun h_111 => ?_) (fun h_111 => ?_)
              · replace hT := mx_f hT h_111
                refine lv_iload hx hb dL_law_294 (lv_at hl 0 rfl) ?_
                refine lv_bipush (v := (8 : Int32)) hx hb dL_law_296 (by decide) ?_
                refine lv_icmp_ge (tgt := 368) hx hb dL_law_298 (by decide) (fun h_112 => ?_) (fun h_112 => ?_)
                · replace hT := mx_t hT h_112
                  unfold xL_law_T_J368 at hT
                  refine lv_iload hx hb dL_law_368 (lv_at hl 11 rfl) ?_
                  refine lv_bipush (v := (6 : Int32)) hx hb dL_law_370 (by decide) ?_
                  refine lv_irem hx hb dL_law_372 (by decide) ?_
                  refine lv_iconst (v := (5 : Int32)) hx hb dL_law_373 (by decide) ?_
                  refine lv_icmp_ne (tgt := 394) hx hb dL_law_374 (by decide) (fun h_113 => ?_) (fun h_113 => ?_)
                  · replace hT := mx_f hT h_113
                    obtain ⟨v_114, e_v_114, hT⟩ := mx_nm hT
                    refine lv_iinc (v := v_114) (lv' := [(8, .int (v_114)), (11, .int (q_59)), (10, .int (v_55)), (9, .int (v_53)), (0, .ref b), (1, .ref (mad E (240))), (2, .ref (mad E (246))), (3, .ref (mad E (247))), (4, .ref (mad E (248))), (5, .ref (mad E (249))), (6, .ref (mad E (250))), (7, .ref (mad E (251)))]) hx hb dL_law_394 hl (k := 11) rfl (by rw [← e_v_114]; rfl) (by decide) rfl (fun ls hl => ?_)
                    refine lv_goto (tgt := 161) hx hb dL_law_397 (by decide) ?_
                    exact ih _ _ _ _ _ _ hT Z (lv_sub hl [4, 5, 6, 7, 8, 9, 10, 11, 0] rfl) _ _ ⟨by omega, by omega⟩ k0 k1 k2 k3 k4
                  · replace hT := mx_t hT h_113
                    refine lv_aload_n hx hb dL_law_377 rfl (lv_at hl 4 rfl) ?_
                    refine lv_iload hx hb dL_law_378 (lv_at hl 1 rfl) ?_
                    refine lv_iconst (v := (2 : Int32)) hx hb dL_law_380 (by decide) ?_
                    refine lv_ishr hx hb dL_law_381 ?_
                    refine lv_aload_n hx hb dL_law_382 rfl (lv_at hl 5 rfl) ?_
                    refine lv_aload_n hx hb dL_law_383 rfl (lv_at hl 6 rfl) ?_
                    refine lv_aload hx hb dL_law_384 (lv_at hl 7 rfl) ?_
                    obtain ⟨h_115, hT⟩ := mx_chk hT
                    obtain ⟨q_116, h_q_116, hT⟩ := mx_bind hT
                    obtain ⟨h_117, hT⟩ := mx_chk hT
                    refine mx_callSN (cells := cN) (slots := sN) (As := [.ref (mad E (240)), .int (v_55 >>> ((2 : Int32) &&& 31)), .ref (mad E (246)), .ref (mad E (247)), .ref (mad E (248))]) (rest := []) (st1 := [.int q_116.1]) X Z hl.1 (mL_ahead l E hJ hI _ _ _ h_q_116 h_115 h_117) wd_23_3 wd_23_4 wd_10_7 wd_23_5 hdL_ahead ⟨Nat.le_trans (by decide) hR.1, Nat.le_trans (by decide) hR.2⟩ ⟨by omega, by omega⟩ (Nat.le_of_ble_eq_true rfl) rfl rfl dL_law_386 (fun H locs Z => ?_)
                    refine lv_if_ne (tgt := 394) hx hb dL_law_389 (by decide) (fun h_118 => ?_) (fun h_118 => ?_)
                    · replace hT := mx_f hT h_118
                      obtain ⟨v_119, e_v_119, hT⟩ := mx_nm hT
                      refine lv_iinc (v := v_119) (lv' := [(8, .int (v_119)), (11, .int (q_59)), (10, .int (v_55)), (9, .int (v_53)), (0, .ref b), (1, .ref (mad E (240))), (2, .ref (mad E (246))), (3, .ref (mad E (247))), (4, .ref (mad E (248))), (5, .ref (mad E (249))), (6, .ref (mad E (250))), (7, .ref (mad E (251)))]) hx hb dL_law_394 hl (k := 11) rfl (by rw [← e_v_119]; rfl) (by decide) rfl (fun ls hl => ?_)
                      refine lv_goto (tgt := 161) hx hb dL_law_397 (by decide) ?_
                      exact ih _ _ _ _ _ _ hT Z (lv_sub hl [4, 5, 6, 7, 8, 9, 10, 11, 0] rfl) _ _ ⟨by omega, by omega⟩ k0 k1 k2 k3 k4
                    · replace hT := mx_t hT h_118
                      cases hT
                      refine W.widen (k := cF) (n := sF) (by omega) (by omega) ?_
                      exact k4 rfl _ _ _ Z (lv_sub hl [3, 4, 5, 6, 7, 8, 9, 10] rfl)
                · replace hT := mx_f hT h_112
                  refine lv_aload_n hx hb dL_law_301 rfl (lv_at hl 4 rfl) ?_
                  refine lv_iconst (v := (5 : Int32)) hx hb dL_law_302 (by decide) ?_
                  obtain ⟨q_120, h_q_120, hT⟩ := mx_bind hT
                  refine mx_callV (As := [.int ((5 : Int32))]) (rest := []) (st1 := [.int (q_120)]) (C := RX5) (T := TX5) (N := 6) (ci := 5) X Z hl.1 (c5_count l E hJ hy1 _ _ _ h_q_120) wd_15_10 wd_15_11 wd_15_12 wd_1_2 wd_15_13 hd5_count ⟨Nat.le_trans (by decide) hR.1, Nat.le_trans (by decide) hR.2⟩ ⟨by omega, by omega⟩ hy1.i (hy1.c _) rfl (Nat.le_of_ble_eq_true rfl) rfl rfl dL_law_303 (fun H locs Z => ?_)
                  refine lv_iload hx hb dL_law_306 (lv_at hl 0 rfl) ?_
                  refine lv_iconst (v := (1 : Int32)) hx hb dL_law_308 (by decide) ?_
                  refine lv_iadd hx hb dL_law_309 ?_
                  refine lv_icmp_ne (tgt := 368) hx hb dL_law_310 (by decide) (fun h_121 => ?_) (fun h_121 => ?_)
                  · replace hT := mx_f hT h_121
                    unfold xL_law_T_J368 at hT
                    refine lv_iload hx hb dL_law_368 (lv_at hl 11 rfl) ?_
                    refine lv_bipush (v := (6 : Int32)) hx hb dL_law_370 (by decide) ?_
                    refine lv_irem hx hb dL_law_372 (by decide) ?_
                    refine lv_iconst (v := (5 : Int32)) hx hb dL_law_373 (by decide) ?_
                    refine lv_icmp_ne (tgt := 394) hx hb dL_law_374 (by decide) (fun h_122 => ?_) (fun h_122 => ?_)
                    · replace hT := mx_f hT h_122
                      obtain ⟨v_123, e_v_123, hT⟩ := mx_nm hT
                      refine lv_iinc (v := v_123) (lv' := [(8, .int (v_123)), (11, .int (q_59)), (10, .int (v_55)), (9, .int (v_53)), (0, .ref b), (1, .ref (mad E (240))), (2, .ref (mad E (246))), (3, .ref (mad E (247))), (4, .ref (mad E (248))), (5, .ref (mad E (249))), (6, .ref (mad E (250))), (7, .ref (mad E (251)))]) hx hb dL_law_394 hl (k := 11) rfl (by rw [← e_v_123]; rfl) (by decide) rfl (fun ls hl => ?_)
                      refine lv_goto (tgt := 161) hx hb dL_law_397 (by decide) ?_
                      exact ih _ _ _ _ _ _ hT Z (lv_sub hl [4, 5, 6, 7, 8, 9, 10, 11, 0] rfl) _ _ ⟨by omega, by omega⟩ k0 k1 k2 k3 k4
                    · replace hT := mx_t hT h_122
                      refine lv_aload_n hx hb dL_law_377 rfl (lv_at hl 4 rfl) ?_
                      refine lv_iload hx hb dL_law_378 (lv_at hl 1 rfl) ?_
                      refine lv_iconst (v := (2 : Int32)) hx hb dL_law_380 (by decide) ?_
                      refine lv_ishr hx hb dL_law_381 ?_
                      refine lv_aload_n hx hb dL_law_382 rfl (lv_at hl 5 rfl) ?_
                      refine lv_aload_n hx hb dL_law_383 rfl (lv_at hl 6 rfl) ?_
                      refine lv_aload hx hb dL_law_384 (lv_at hl 7 rfl) ?_
                      obtain ⟨h_124, hT⟩ := mx_chk hT
                      obtain ⟨q_125, h_q_125, hT⟩ := mx_bind hT
                      obtain ⟨h_126, hT⟩ := mx_chk hT
                      refine mx_callSN (cells := cN) (slots := sN) (As := [.ref (mad E (240)), .int (v_55 >>> ((2 : Int32) &&& 31)), .ref (mad E (246)), .ref (mad E (247)), .ref (mad E (248))]) (rest := []) (st1 := [.int q_125.1]) X Z hl.1 (mL_ahead l E hJ hI _ _ _ h_q_125 h_124 h_126) wd_23_3 wd_23_4 wd_10_7 wd_23_5 hdL_ahead ⟨Nat.le_trans (by decide) hR.1, Nat.le_trans (by decide) hR.2⟩ ⟨by omega, by omega⟩ (Nat.le_of_ble_eq_true rfl) rfl rfl dL_law_386 (fun H locs Z => ?_)
                      refine lv_if_ne (tgt := 394) hx hb dL_law_389 (by decide) (fun h_127 => ?_) (fun h_127 => ?_)
                      · replace hT := mx_f hT h_127
                        obtain ⟨v_128, e_v_128, hT⟩ := mx_nm hT
                        refine lv_iinc (v := v_128) (lv' := [(8, .int (v_128)), (11, .int (q_59)), (10, .int (v_55)), (9, .int (v_53)), (0, .ref b), (1, .ref (mad E (240))), (2, .ref (mad E (246))), (3, .ref (mad E (247))), (4, .ref (mad E (248))), (5, .ref (mad E (249))), (6, .ref (mad E (250))), (7, .ref (mad E (251)))]) hx hb dL_law_394 hl (k := 11) rfl (by rw [← e_v_128]; rfl) (by decide) rfl (fun ls hl => ?_)
                        refine lv_goto (tgt := 161) hx hb dL_law_397 (by decide) ?_
                        exact ih _ _ _ _ _ _ hT Z (lv_sub hl [4, 5, 6, 7, 8, 9, 10, 11, 0] rfl) _ _ ⟨by omega, by omega⟩ k0 k1 k2 k3 k4
                      · replace hT := mx_t hT h_127
                        cases hT
                        refine W.widen (k := cF) (n := sF) (by omega) (by omega) ?_
                        exact k4 rfl _ _ _ Z (lv_sub hl [3, 4, 5, 6, 7, 8, 9, 10] rfl)
                  · replace hT := mx_t hT h_121
                    refine lv_iload hx hb dL_law_313 (lv_at hl 1 rfl) ?_
                    refine lv_bipush (v := (12 : Int32)) hx hb dL_law_315 (by decide) ?_
                    refine lv_ishr hx hb dL_law_317 ?_
                    refine lv_iconst (v := (5 : Int32)) hx hb dL_law_318 (by decide) ?_
                    obtain ⟨q_129, h_q_129, hT⟩ := mx_bind hT
                    refine mx_callS (As := [.int (v_55 >>> ((12 : Int32) &&& 31)), .int ((5 : Int32))]) (rest := []) (st1 := [.int (q_129)]) X Z hl.1 (mL_at l E hJ _ _ _ _ h_q_129) wd_17_3 wd_17_4 wd_10_7 wd_17_5 hdL_at ⟨Nat.le_trans (by decide) hR.1, Nat.le_trans (by decide) hR.2⟩ ⟨by omega, by omega⟩ (Nat.le_of_ble_eq_true rfl) rfl rfl dL_law_319 (fun H locs Z => ?_)
                    refine lv_if_ne (tgt := 368) hx hb dL_law_322 (by decide) (fun h_130 => ?_) (fun h_130 => ?_)
                    · replace hT := mx_f hT h_130
                      unfold xL_law_T_J368 at hT
                      refine lv_iload hx hb dL_law_368 (lv_at hl 11 rfl) ?_
                      refine lv_bipush (v := (6 : Int32)) hx hb dL_law_370 (by decide) ?_
                      refine lv_irem hx hb dL_law_372 (by decide) ?_
                      refine lv_iconst (v := (5 : Int32)) hx hb dL_law_373 (by decide) ?_
                      refine lv_icmp_ne (tgt := 394) hx hb dL_law_374 (by decide) (fun h_131 => ?_) (fun h_131 => ?_)
                      · replace hT := mx_f hT h_131
                        obtain ⟨v_132, e_v_132, hT⟩ := mx_nm hT
                        refine lv_iinc (v := v_132) (lv' := [(8, .int (v_132)), (11, .int (q_59)), (10, .int (v_55)), (9, .int (v_53)), (0, .ref b), (1, .ref (mad E (240))), (2, .ref (mad E (246))), (3, .ref (mad E (247))), (4, .ref (mad E (248))), (5, .ref (mad E (249))), (6, .ref (mad E (250))), (7, .ref (mad E (251)))]) hx hb dL_law_394 hl (k := 11) rfl (by rw [← e_v_132]; rfl) (by decide) rfl (fun ls hl => ?_)
                        refine lv_goto (tgt := 161) hx hb dL_law_397 (by decide) ?_
                        exact ih _ _ _ _ _ _ hT Z (lv_sub hl [4, 5, 6, 7, 8, 9, 10, 11, 0] rfl) _ _ ⟨by omega, by omega⟩ k0 k1 k2 k3 k4
                      · replace hT := mx_t hT h_131
                        refine lv_aload_n hx hb dL_law_377 rfl (lv_at hl 4 rfl) ?_
                        refine lv_iload hx hb dL_law_378 (lv_at hl 1 rfl) ?_
                        refine lv_iconst (v := (2 : Int32)) hx hb dL_law_380 (by decide) ?_
                        refine lv_ishr hx hb dL_law_381 ?_
                        refine lv_aload_n hx hb dL_law_382 rfl (lv_at hl 5 rfl) ?_
                        refine lv_aload_n hx hb dL_law_383 rfl (lv_at hl 6 rfl) ?_
                        refine lv_aload hx hb dL_law_384 (lv_at hl 7 rfl) ?_
                        obtain ⟨h_133, hT⟩ := mx_chk hT
                        obtain ⟨q_134, h_q_134, hT⟩ := mx_bind hT
                        obtain ⟨h_135, hT⟩ := mx_chk hT
                        refine mx_callSN (cells := cN) (slots := sN) (As := [.ref (mad E (240)), .int (v_55 >>> ((2 : Int32) &&& 31)), .ref (mad E (246)), .ref (mad E (247)), .ref (mad E (248))]) (rest := []) (st1 := [.int q_134.1]) X Z hl.1 (mL_ahead l E hJ hI _ _ _ h_q_134 h_133 h_135) wd_23_3 wd_23_4 wd_10_7 wd_23_5 hdL_ahead ⟨Nat.le_trans (by decide) hR.1, Nat.le_trans (by decide) hR.2⟩ ⟨by omega, by omega⟩ (Nat.le_of_ble_eq_true rfl) rfl rfl dL_law_386 (fun H locs Z => ?_)
                        refine lv_if_ne (tgt := 394) hx hb dL_law_389 (by decide) (fun h_136 => ?_) (fun h_136 => ?_)
                        · replace hT := mx_f hT h_136
                          obtain ⟨v_137, e_v_137, hT⟩ := mx_nm hT
                          refine lv_iinc (v := v_137) (lv' := [(8, .int (v_137)), (11, .int (q_59)), (10, .int (v_55)), (9, .int (v_53)), (0, .ref b), (1, .ref (mad E (240))), (2, .ref (mad E (246))), (3, .ref (mad E (247))), (4, .ref (mad E (248))), (5, .ref (mad E (249))), (6, .ref (mad E (250))), (7, .ref (mad E (251)))]) hx hb dL_law_394 hl (k := 11) rfl (by rw [← e_v_137]; rfl) (by decide) rfl (fun ls hl => ?_)
                          refine lv_goto (tgt := 161) hx hb dL_law_397 (by decide) ?_
                          exact ih _ _ _ _ _ _ hT Z (lv_sub hl [4, 5, 6, 7, 8, 9, 10, 11, 0] rfl) _ _ ⟨by omega, by omega⟩ k0 k1 k2 k3 k4
                        · replace hT := mx_t hT h_136
                          cases hT
                          refine W.widen (k := cF) (n := sF) (by omega) (by omega) ?_
                          exact k4 rfl _ _ _ Z (lv_sub hl [3, 4, 5, 6, 7, 8, 9, 10] rfl)
                    · replace hT := mx_t hT h_130
                      refine lv_aload_n hx hb dL_law_325 rfl (lv_at hl 4 rfl) ?_
                      obtain ⟨q_138, h_q_138, hT⟩ := mx_bind hT
                      refine mx_callV (As := []) (rest := []) (st1 := [.int (q_138.1)]) (C := RX5) (T := TX5) (N := 6) (ci := 5) X Z hl.1 (c5_undo l E hJ hy1 _ _ h_q_138) wd_7_17 wd_7_18 wd_7_19 wd_1_2 wd_7_20 hd5_undo ⟨Nat.le_trans (by decide) hR.1, Nat.le_trans (by decide) hR.2⟩ ⟨by omega, by omega⟩ hy1.i (hy1.c _) rfl (Nat.le_of_ble_eq_true rfl) rfl rfl dL_law_326 (fun H locs Z => ?_)
                      refine lv_iload hx hb dL_law_329 (lv_at hl 0 rfl) ?_
                      refine lv_icmp_eq (tgt := 336) hx hb dL_law_331 (by decide) (fun h_139 => ?_) (fun h_139 => ?_)
                      · replace hT := mx_t hT h_139
                        refine lv_aload hx hb dL_law_336 (lv_at hl 8 rfl) ?_
                        refine lv_aload_n hx hb dL_law_338 rfl (lv_at hl 5 rfl) ?_
                        obtain ⟨q_140, h_q_140, hT⟩ := mx_bind hT
                        refine mx_callS (As := [.ref (mad E (249)), .ref (mad E (246))]) (rest := []) (st1 := []) X Z hl.1 (mL_copy l E hJ hy5 hy2 _ _ h_q_140) wd_17_0 wd_17_1 wd_10_7 wd_17_2 hdL_copy ⟨Nat.le_trans (by decide) hR.1, Nat.le_trans (by decide) hR.2⟩ ⟨by omega, by omega⟩ (Nat.le_of_ble_eq_true rfl) rfl rfl dL_law_339 (fun H locs Z => ?_)
                        refine lv_aload hx hb dL_law_342 (lv_at hl 9 rfl) ?_
                        refine lv_aload_n hx hb dL_law_344 rfl (lv_at hl 6 rfl) ?_
                        obtain ⟨q_141, h_q_141, hT⟩ := mx_bind hT
                        refine mx_callS (As := [.ref (mad E (250)), .ref (mad E (247))]) (rest := []) (st1 := []) X Z hl.1 (mL_copy l E hJ hy6 hy3 _ _ h_q_141) wd_17_0 wd_17_1 wd_10_7 wd_17_2 hdL_copy ⟨Nat.le_trans (by decide) hR.1, Nat.le_trans (by decide) hR.2⟩ ⟨by omega, by omega⟩ (Nat.le_of_ble_eq_true rfl) rfl rfl dL_law_345 (fun H locs Z => ?_)
                        refine lv_aload hx hb dL_law_348 (lv_at hl 10 rfl) ?_
                        refine lv_aload hx hb dL_law_350 (lv_at hl 7 rfl) ?_
                        obtain ⟨q_142, h_q_142, hT⟩ := mx_bind hT
                        refine mx_callS (As := [.ref (mad E (251)), .ref (mad E (248))]) (rest := []) (st1 := []) X Z hl.1 (mL_copy l E hJ hy7 hy4 _ _ h_q_142) wd_17_0 wd_17_1 wd_10_7 wd_17_2 hdL_copy ⟨Nat.le_trans (by decide) hR.1, Nat.le_trans (by decide) hR.2⟩ ⟨by omega, by omega⟩ (Nat.le_of_ble_eq_true rfl) rfl rfl dL_law_352 (fun H locs Z => ?_)
                        refine lv_aload_n hx hb dL_law_355 rfl (lv_at hl 4 rfl) ?_
                        refine lv_aload_n hx hb dL_law_356 rfl (lv_at hl 5 rfl) ?_
                        refine lv_aload_n hx hb dL_law_357 rfl (lv_at hl 6 rfl) ?_
                        refine lv_aload hx hb dL_law_358 (lv_at hl 7 rfl) ?_
                        obtain ⟨q_143, h_q_143, hT⟩ := mx_bind hT
                        refine mx_callS (As := [.ref (mad E (240)), .ref (mad E (246)), .ref (mad E (247)), .ref (mad E (248))]) (rest := []) (st1 := [.int (q_143)]) X Z hl.1 (mL_told l E hJ hy1 hy2 hy3 hy4 _ _ h_q_143) wd_10_5 wd_10_6 wd_10_7 wd_10_8 hdL_told ⟨Nat.le_trans (by decide) hR.1, Nat.le_trans (by decide) hR.2⟩ ⟨by omega, by omega⟩ (Nat.le_of_ble_eq_true rfl) rfl rfl dL_law_360 (fun H locs Z => ?_)
                        refine lv_if_ne (tgt := 368) hx hb dL_law_363 (by decide) (fun h_144 => ?_) (fun h_144 => ?_)
                        · replace hT := mx_f hT h_144
                          unfold xL_law_T_J368 at hT
                          refine lv_iload hx hb dL_law_368 (lv_at hl 11 rfl) ?_
                          refine lv_bipush (v := (6 : Int32)) hx hb dL_law_370 (by decide) ?_
                          refine lv_irem hx hb dL_law_372 (by decide) ?_
                          refine lv_iconst (v := (5 : Int32)) hx hb dL_law_373 (by decide) ?_
                          refine lv_icmp_ne (tgt := 394) hx hb dL_law_374 (by decide) (fun h_145 => ?_) (fun h_145 => ?_)
                          · replace hT := mx_f hT h_145
                            obtain ⟨v_146, e_v_146, hT⟩ := mx_nm hT
                            refine lv_iinc (v := v_146) (lv' := [(8, .int (v_146)), (11, .int (q_59)), (10, .int (v_55)), (9, .int (v_53)), (0, .ref b), (1, .ref (mad E (240))), (2, .ref (mad E (246))), (3, .ref (mad E (247))), (4, .ref (mad E (248))), (5, .ref (mad E (249))), (6, .ref (mad E (250))), (7, .ref (mad E (251)))]) hx hb dL_law_394 hl (k := 11) rfl (by rw [← e_v_146]; rfl) (by decide) rfl (fun ls hl => ?_)
                            refine lv_goto (tgt := 161) hx hb dL_law_397 (by decide) ?_
                            exact ih _ _ _ _ _ _ hT Z (lv_sub hl [4, 5, 6, 7, 8, 9, 10, 11, 0] rfl) _ _ ⟨by omega, by omega⟩ k0 k1 k2 k3 k4
                          · replace hT := mx_t hT h_145
                            refine lv_aload_n hx hb dL_law_377 rfl (lv_at hl 4 rfl) ?_
                            refine lv_iload hx hb dL_law_378 (lv_at hl 1 rfl) ?_
                            refine lv_iconst (v := (2 : Int32)) hx hb dL_law_380 (by decide) ?_
                            refine lv_ishr hx hb dL_law_381 ?_
                            refine lv_aload_n hx hb dL_law_382 rfl (lv_at hl 5 rfl) ?_
                            refine lv_aload_n hx hb dL_law_383 rfl (lv_at hl 6 rfl) ?_
                            refine lv_aload hx hb dL_law_384 (lv_at hl 7 rfl) ?_
                            obtain ⟨h_147, hT⟩ := mx_chk hT
                            obtain ⟨q_148, h_q_148, hT⟩ := mx_bind hT
                            obtain ⟨h_149, hT⟩ := mx_chk hT
                            refine mx_callSN (cells := cN) (slots := sN) (As := [.ref (mad E (240)), .int (v_55 >>> ((2 : Int32) &&& 31)), .ref (mad E (246)), .ref (mad E (247)), .ref (mad E (248))]) (rest := []) (st1 := [.int q_148.1]) X Z hl.1 (mL_ahead l E hJ hI _ _ _ h_q_148 h_147 h_149) wd_23_3 wd_23_4 wd_10_7 wd_23_5 hdL_ahead ⟨Nat.le_trans (by decide) hR.1, Nat.le_trans (by decide) hR.2⟩ ⟨by omega, by omega⟩ (Nat.le_of_ble_eq_true rfl) rfl rfl dL_law_386 (fun H locs Z => ?_)
                            refine lv_if_ne (tgt := 394) hx hb dL_law_389 (by decide) (fun h_150 => ?_) (fun h_150 => ?_)
                            · replace hT := mx_f hT h_150
                              obtain ⟨v_151, e_v_151, hT⟩ := mx_nm hT
                              refine lv_iinc (v := v_151) (lv' := [(8, .int (v_151)), (11, .int (q_59)), (10, .int (v_55)), (9, .int (v_53)), (0, .ref b), (1, .ref (mad E (240))), (2, .ref (mad E (246))), (3, .ref (mad E (247))), (4, .ref (mad E (248))), (5, .ref (mad E (249))), (6, .ref (mad E (250))), (7, .ref (mad E (251)))]) hx hb dL_law_394 hl (k := 11) rfl (by rw [← e_v_151]; rfl) (by decide) rfl (fun ls hl => ?_)
                              refine lv_goto (tgt := 161) hx hb dL_law_397 (by decide) ?_
                              exact ih _ _ _ _ _ _ hT Z (lv_sub hl [4, 5, 6, 7, 8, 9, 10, 11, 0] rfl) _ _ ⟨by omega, by omega⟩ k0 k1 k2 k3 k4
                            · replace hT := mx_t hT h_150
                              cases hT
                              refine W.widen (k := cF) (n := sF) (by omega) (by omega) ?_
                              exact k4 rfl _ _ _ Z (lv_sub hl [3, 4, 5, 6, 7, 8, 9, 10] rfl)
                        · replace hT := mx_t hT h_144
                          cases hT
                          refine W.widen (k := cF) (n := sF) (by omega) (by omega) ?_
                          exact k3 rfl _ _ _ Z (lv_sub hl [3, 4, 5, 6, 7, 8, 9, 10] rfl)
                      · replace hT := mx_f hT h_139
                        cases hT
                        refine W.widen (k := cF) (n := sF) (by omega) (by omega) ?_
                        exact k2 rfl _ _ _ Z (lv_sub hl [3, 4, 5, 6, 7, 8, 9, 10] rfl)
              · replace hT := mx_t hT h_111
                cases hT
                refine W.widen (k := cF) (n := sF) (by omega) (by omega) ?_
                exact k1 rfl _ _ _ Z (lv_sub hl [3, 4, 5, 6, 7, 8, 9, 10] rfl)
        · replace hT := mx_f hT h_61
          refine lv_bipush (v := (10 : Int32)) hx hb dL_law_240 (by decide) ?_
          refine lv_goto (tgt := 267) hx hb dL_law_242 (by decide) ?_
          unfold xL_law_T_J267 at hT
          refine lv_iload hx hb dL_law_267 (lv_at hl 2 rfl) ?_
          refine lv_iload hx hb dL_law_269 (lv_at hl 1 rfl) ?_
          refine lv_aload_n hx hb dL_law_271 rfl (lv_at hl 5 rfl) ?_
          refine lv_aload_n hx hb dL_law_272 rfl (lv_at hl 6 rfl) ?_
          refine lv_aload hx hb dL_law_273 (lv_at hl 7 rfl) ?_
          obtain ⟨q_152, h_q_152, hT⟩ := mx_bind hT
          refine mx_callS (As := [.ref (mad E (240)), .int ((10 : Int32)), .int (v_53), .int (v_55), .ref (mad E (246)), .ref (mad E (247)), .ref (mad E (248))]) (rest := []) (st1 := [.int (q_152.1)]) X Z hl.1 (mL_act l E hJ hy1 hy2 hy3 hy4 _ _ _ _ _ h_q_152) wd_17_6 wd_17_7 wd_10_7 wd_17_8 hdL_act ⟨Nat.le_trans (by decide) hR.1, Nat.le_trans (by decide) hR.2⟩ ⟨by omega, by omega⟩ (Nat.le_of_ble_eq_true rfl) rfl rfl dL_law_275 (fun H locs Z => ?_)
          refine lv_if_eq (tgt := 292) hx hb dL_law_278 (by decide) (fun h_153 => ?_) (fun h_153 => ?_)
          · replace hT := mx_t hT h_153
            cases hT
            refine W.widen (k := cF) (n := sF) (by omega) (by omega) ?_
            exact k1 rfl _ _ _ Z (lv_sub hl [3, 4, 5, 6, 7, 8, 9, 10] rfl)
          · replace hT := mx_f hT h_153
            refine lv_aload_n hx hb dL_law_281 rfl (lv_at hl 4 rfl) ?_
            refine lv_aload_n hx hb dL_law_282 rfl (lv_at hl 5 rfl) ?_
            refine lv_aload_n hx hb dL_law_283 rfl (lv_at hl 6 rfl) ?_
            refine lv_aload hx hb dL_law_284 (lv_at hl 7 rfl) ?_
            obtain ⟨q_154, h_q_154, hT⟩ := mx_bind hT
            refine mx_callS (As := [.ref (mad E (240)), .ref (mad E (246)), .ref (mad E (247)), .ref (mad E (248))]) (rest := []) (st1 := [.int (q_154)]) X Z hl.1 (mL_told l E hJ hy1 hy2 hy3 hy4 _ _ h_q_154) wd_10_5 wd_10_6 wd_10_7 wd_10_8 hdL_told ⟨Nat.le_trans (by decide) hR.1, Nat.le_trans (by decide) hR.2⟩ ⟨by omega, by omega⟩ (Nat.le_of_ble_eq_true rfl) rfl rfl dL_law_286 (fun H locs Z => ?_)
            refine lv_if_ne (tgt := 294) hx hb dL_law_289 (by decide) (fun h_155 => ?_) (fun h_155 => ?_)
            · replace hT := mx_f hT h_155
              refine lv_iload hx hb dL_law_294 (lv_at hl 0 rfl) ?_
              refine lv_bipush (v := (8 : Int32)) hx hb dL_law_296 (by decide) ?_
              refine lv_icmp_ge (tgt := 368) hx hb dL_law_298 (by decide) (fun h_156 => ?_) (fun h_156 => ?_)
              · replace hT := mx_t hT h_156
                unfold xL_law_T_J368 at hT
                refine lv_iload hx hb dL_law_368 (lv_at hl 11 rfl) ?_
                refine lv_bipush (v := (6 : Int32)) hx hb dL_law_370 (by decide) ?_
                refine lv_irem hx hb dL_law_372 (by decide) ?_
                refine lv_iconst (v := (5 : Int32)) hx hb dL_law_373 (by decide) ?_
                refine lv_icmp_ne (tgt := 394) hx hb dL_law_374 (by decide) (fun h_157 => ?_) (fun h_157 => ?_)
                · replace hT := mx_f hT h_157
                  obtain ⟨v_158, e_v_158, hT⟩ := mx_nm hT
                  refine lv_iinc (v := v_158) (lv' := [(8, .int (v_158)), (11, .int (q_59)), (10, .int (v_55)), (9, .int (v_53)), (0, .ref b), (1, .ref (mad E (240))), (2, .ref (mad E (246))), (3, .ref (mad E (247))), (4, .ref (mad E (248))), (5, .ref (mad E (249))), (6, .ref (mad E (250))), (7, .ref (mad E (251)))]) hx hb dL_law_394 hl (k := 11) rfl (by rw [← e_v_158]; rfl) (by decide) rfl (fun ls hl => ?_)
                  refine lv_goto (tgt := 161) hx hb dL_law_397 (by decide) ?_
                  exact ih _ _ _ _ _ _ hT Z (lv_sub hl [4, 5, 6, 7, 8, 9, 10, 11, 0] rfl) _ _ ⟨by omega, by omega⟩ k0 k1 k2 k3 k4
                · replace hT := mx_t hT h_157
                  refine lv_aload_n hx hb dL_law_377 rfl (lv_at hl 4 rfl) ?_
                  refine lv_iload hx hb dL_law_378 (lv_at hl 1 rfl) ?_
                  refine lv_iconst (v := (2 : Int32)) hx hb dL_law_380 (by decide) ?_
                  refine lv_ishr hx hb dL_law_381 ?_
                  refine lv_aload_n hx hb dL_law_382 rfl (lv_at hl 5 rfl) ?_
                  refine lv_aload_n hx hb dL_law_383 rfl (lv_at hl 6 rfl) ?_
                  refine lv_aload hx hb dL_law_384 (lv_at hl 7 rfl) ?_
                  obtain ⟨h_159, hT⟩ := mx_chk hT
                  obtain ⟨q_160, h_q_160, hT⟩ := mx_bind hT
                  obtain ⟨h_161, hT⟩ := mx_chk hT
                  refine mx_callSN (cells := cN) (slots := sN) (As := [.ref (mad E (240)), .int (v_55 >>> ((2 : Int32) &&& 31)), .ref (mad E (246)), .ref (mad E (247)), .ref (mad E (248))]) (rest := []) (st1 := [.int q_160.1]) X Z hl.1 (mL_ahead l E hJ hI _ _ _ h_q_160 h_159 h_161) wd_23_3 wd_23_4 wd_10_7 wd_23_5 hdL_ahead ⟨Nat.le_trans (by decide) hR.1, Nat.le_trans (by decide) hR.2⟩ ⟨by omega, by omega⟩ (Nat.le_of_ble_eq_true rfl) rfl rfl dL_law_386 (fun H locs Z => ?_)
                  refine lv_if_ne (tgt := 394) hx hb dL_law_389 (by decide) (fun h_162 => ?_) (fun h_162 => ?_)
                  · replace hT := mx_f hT h_162
                    obtain ⟨v_163, e_v_163, hT⟩ := mx_nm hT
                    refine lv_iinc (v := v_163) (lv' := [(8, .int (v_163)), (11, .int (q_59)), (10, .int (v_55)), (9, .int (v_53)), (0, .ref b), (1, .ref (mad E (240))), (2, .ref (mad E (246))), (3, .ref (mad E (247))), (4, .ref (mad E (248))), (5, .ref (mad E (249))), (6, .ref (mad E (250))), (7, .ref (mad E (251)))]) hx hb dL_law_394 hl (k := 11) rfl (by rw [← e_v_163]; rfl) (by decide) rfl (fun ls hl => ?_)
                    refine lv_goto (tgt := 161) hx hb dL_law_397 (by decide) ?_
                    exact ih _ _ _ _ _ _ hT Z (lv_sub hl [4, 5, 6, 7, 8, 9, 10, 11, 0] rfl) _ _ ⟨by omega, by omega⟩ k0 k1 k2 k3 k4
                  · replace hT := mx_t hT h_162
                    cases hT
                    refine W.widen (k := cF) (n := sF) (by omega) (by omega) ?_
                    exact k4 rfl _ _ _ Z (lv_sub hl [3, 4, 5, 6, 7, 8, 9, 10] rfl)
              · replace hT := mx_f hT h_156
                refine lv_aload_n hx hb dL_law_301 rfl (lv_at hl 4 rfl) ?_
                refine lv_iconst (v := (5 : Int32)) hx hb dL_law_302 (by decide) ?_
                obtain ⟨q_164, h_q_164, hT⟩ := mx_bind hT
                refine mx_callV (As := [.int ((5 : Int32))]) (rest := []) (st1 := [.int (q_164)]) (C := RX5) (T := TX5) (N := 6) (ci := 5) X Z hl.1 (c5_count l E hJ hy1 _ _ _ h_q_164) wd_15_10 wd_15_11 wd_15_12 wd_1_2 wd_15_13 hd5_count ⟨Nat.le_trans (by decide) hR.1, Nat.le_trans (by decide) hR.2⟩ ⟨by omega, by omega⟩ hy1.i (hy1.c _) rfl (Nat.le_of_ble_eq_true rfl) rfl rfl dL_law_303 (fun H locs Z => ?_)
                refine lv_iload hx hb dL_law_306 (lv_at hl 0 rfl) ?_
                refine lv_iconst (v := (1 : Int32)) hx hb dL_law_308 (by decide) ?_
                refine lv_iadd hx hb dL_law_309 ?_
                refine lv_icmp_ne (tgt := 368) hx hb dL_law_310 (by decide) (fun h_165 => ?_) (fun h_165 => ?_)
                · replace hT := mx_f hT h_165
                  unfold xL_law_T_J368 at hT
                  refine lv_iload hx hb dL_law_368 (lv_at hl 11 rfl) ?_
                  refine lv_bipush (v := (6 : Int32)) hx hb dL_law_370 (by decide) ?_
                  refine lv_irem hx hb dL_law_372 (by decide) ?_
                  refine lv_iconst (v := (5 : Int32)) hx hb dL_law_373 (by decide) ?_
                  refine lv_icmp_ne (tgt := 394) hx hb dL_law_374 (by decide) (fun h_166 => ?_) (fun h_166 => ?_)
                  · replace hT := mx_f hT h_166
                    obtain ⟨v_167, e_v_167, hT⟩ := mx_nm hT
                    refine lv_iinc (v := v_167) (lv' := [(8, .int (v_167)), (11, .int (q_59)), (10, .int (v_55)), (9, .int (v_53)), (0, .ref b), (1, .ref (mad E (240))), (2, .ref (mad E (246))), (3, .ref (mad E (247))), (4, .ref (mad E (248))), (5, .ref (mad E (249))), (6, .ref (mad E (250))), (7, .ref (mad E (251)))]) hx hb dL_law_394 hl (k := 11) rfl (by rw [← e_v_167]; rfl) (by decide) rfl (fun ls hl => ?_)
                    refine lv_goto (tgt := 161) hx hb dL_law_397 (by decide) ?_
                    exact ih _ _ _ _ _ _ hT Z (lv_sub hl [4, 5, 6, 7, 8, 9, 10, 11, 0] rfl) _ _ ⟨by omega, by omega⟩ k0 k1 k2 k3 k4
                  · replace hT := mx_t hT h_166
                    refine lv_aload_n hx hb dL_law_377 rfl (lv_at hl 4 rfl) ?_
                    refine lv_iload hx hb dL_law_378 (lv_at hl 1 rfl) ?_
                    refine lv_iconst (v := (2 : Int32)) hx hb dL_law_380 (by decide) ?_
                    refine lv_ishr hx hb dL_law_381 ?_
                    refine lv_aload_n hx hb dL_law_382 rfl (lv_at hl 5 rfl) ?_
                    refine lv_aload_n hx hb dL_law_383 rfl (lv_at hl 6 rfl) ?_
                    refine lv_aload hx hb dL_law_384 (lv_at hl 7 rfl) ?_
                    obtain ⟨h_168, hT⟩ := mx_chk hT
                    obtain ⟨q_169, h_q_169, hT⟩ := mx_bind hT
                    obtain ⟨h_170, hT⟩ := mx_chk hT
                    refine mx_callSN (cells := cN) (slots := sN) (As := [.ref (mad E (240)), .int (v_55 >>> ((2 : Int32) &&& 31)), .ref (mad E (246)), .ref (mad E (247)), .ref (mad E (248))]) (rest := []) (st1 := [.int q_169.1]) X Z hl.1 (mL_ahead l E hJ hI _ _ _ h_q_169 h_168 h_170) wd_23_3 wd_23_4 wd_10_7 wd_23_5 hdL_ahead ⟨Nat.le_trans (by decide) hR.1, Nat.le_trans (by decide) hR.2⟩ ⟨by omega, by omega⟩ (Nat.le_of_ble_eq_true rfl) rfl rfl dL_law_386 (fun H locs Z => ?_)
                    refine lv_if_ne (tgt := 394) hx hb dL_law_389 (by decide) (fun h_171 => ?_) (fun h_171 => ?_)
                    · replace hT := mx_f hT h_171
                      obtain ⟨v_172, e_v_172, hT⟩ := mx_nm hT
                      refine lv_iinc (v := v_172) (lv' := [(8, .int (v_172)), (11, .int (q_59)), (10, .int (v_55)), (9, .int (v_53)), (0, .ref b), (1, .ref (mad E (240))), (2, .ref (mad E (246))), (3, .ref (mad E (247))), (4, .ref (mad E (248))), (5, .ref (mad E (249))), (6, .ref (mad E (250))), (7, .ref (mad E (251)))]) hx hb dL_law_394 hl (k := 11) rfl (by rw [← e_v_172]; rfl) (by decide) rfl (fun ls hl => ?_)
                      refine lv_goto (tgt := 161) hx hb dL_law_397 (by decide) ?_
                      exact ih _ _ _ _ _ _ hT Z (lv_sub hl [4, 5, 6, 7, 8, 9, 10, 11, 0] rfl) _ _ ⟨by omega, by omega⟩ k0 k1 k2 k3 k4
                    · replace hT := mx_t hT h_171
                      cases hT
                      refine W.widen (k := cF) (n := sF) (by omega) (by omega) ?_
                      exact k4 rfl _ _ _ Z (lv_sub hl [3, 4, 5, 6, 7, 8, 9, 10] rfl)
                · replace hT := mx_t hT h_165
                  refine lv_iload hx hb dL_law_313 (lv_at hl 1 rfl) ?_
                  refine lv_bipush (v := (12 : Int32)) hx hb dL_law_315 (by decide) ?_
                  refine lv_ishr hx hb dL_law_317 ?_
                  refine lv_iconst (v := (5 : Int32)) hx hb dL_law_318 (by decide) ?_
                  obtain ⟨q_173, h_q_173, hT⟩ := mx_bind hT
                  refine mx_callS (As := [.int (v_55 >>> ((12 : Int32) &&& 31)), .int ((5 : Int32))]) (rest := []) (st1 := [.int (q_173)]) X Z hl.1 (mL_at l E hJ _ _ _ _ h_q_173) wd_17_3 wd_17_4 wd_10_7 wd_17_5 hdL_at ⟨Nat.le_trans (by decide) hR.1, Nat.le_trans (by decide) hR.2⟩ ⟨by omega, by omega⟩ (Nat.le_of_ble_eq_true rfl) rfl rfl dL_law_319 (fun H locs Z => ?_)
                  refine lv_if_ne (tgt := 368) hx hb dL_law_322 (by decide) (fun h_174 => ?_) (fun h_174 => ?_)
                  · replace hT := mx_f hT h_174
                    unfold xL_law_T_J368 at hT
                    refine lv_iload hx hb dL_law_368 (lv_at hl 11 rfl) ?_
                    refine lv_bipush (v := (6 : Int32)) hx hb dL_law_370 (by decide) ?_
                    refine lv_irem hx hb dL_law_372 (by decide) ?_
                    refine lv_iconst (v := (5 : Int32)) hx hb dL_law_373 (by decide) ?_
                    refine lv_icmp_ne (tgt := 394) hx hb dL_law_374 (by decide) (fun h_175 => ?_) (fun h_175 => ?_)
                    · replace hT := mx_f hT h_175
                      obtain ⟨v_176, e_v_176, hT⟩ := mx_nm hT
                      refine lv_iinc (v := v_176) (lv' := [(8, .int (v_176)), (11, .int (q_59)), (10, .int (v_55)), (9, .int (v_53)), (0, .ref b), (1, .ref (mad E (240))), (2, .ref (mad E (246))), (3, .ref (mad E (247))), (4, .ref (mad E (248))), (5, .ref (mad E (249))), (6, .ref (mad E (250))), (7, .ref (mad E (251)))]) hx hb dL_law_394 hl (k := 11) rfl (by rw [← e_v_176]; rfl) (by decide) rfl (fun ls hl => ?_)
                      refine lv_goto (tgt := 161) hx hb dL_law_397 (by decide) ?_
                      exact ih _ _ _ _ _ _ hT Z (lv_sub hl [4, 5, 6, 7, 8, 9, 10, 11, 0] rfl) _ _ ⟨by omega, by omega⟩ k0 k1 k2 k3 k4
                    · replace hT := mx_t hT h_175
                      refine lv_aload_n hx hb dL_law_377 rfl (lv_at hl 4 rfl) ?_
                      refine lv_iload hx hb dL_law_378 (lv_at hl 1 rfl) ?_
                      refine lv_iconst (v := (2 : Int32)) hx hb dL_law_380 (by decide) ?_
                      refine lv_ishr hx hb dL_law_381 ?_
                      refine lv_aload_n hx hb dL_law_382 rfl (lv_at hl 5 rfl) ?_
                      refine lv_aload_n hx hb dL_law_383 rfl (lv_at hl 6 rfl) ?_
                      refine lv_aload hx hb dL_law_384 (lv_at hl 7 rfl) ?_
                      obtain ⟨h_177, hT⟩ := mx_chk hT
                      obtain ⟨q_178, h_q_178, hT⟩ := mx_bind hT
                      obtain ⟨h_179, hT⟩ := mx_chk hT
                      refine mx_callSN (cells := cN) (slots := sN) (As := [.ref (mad E (240)), .int (v_55 >>> ((2 : Int32) &&& 31)), .ref (mad E (246)), .ref (mad E (247)), .ref (mad E (248))]) (rest := []) (st1 := [.int q_178.1]) X Z hl.1 (mL_ahead l E hJ hI _ _ _ h_q_178 h_177 h_179) wd_23_3 wd_23_4 wd_10_7 wd_23_5 hdL_ahead ⟨Nat.le_trans (by decide) hR.1, Nat.le_trans (by decide) hR.2⟩ ⟨by omega, by omega⟩ (Nat.le_of_ble_eq_true rfl) rfl rfl dL_law_386 (fun H locs Z => ?_)
                      refine lv_if_ne (tgt := 394) hx hb dL_law_389 (by decide) (fun h_180 => ?_) (fun h_180 => ?_)
                      · replace hT := mx_f hT h_180
                        obtain ⟨v_181, e_v_181, hT⟩ := mx_nm hT
                        refine lv_iinc (v := v_181) (lv' := [(8, .int (v_181)), (11, .int (q_59)), (10, .int (v_55)), (9, .int (v_53)), (0, .ref b), (1, .ref (mad E (240))), (2, .ref (mad E (246))), (3, .ref (mad E (247))), (4, .ref (mad E (248))), (5, .ref (mad E (249))), (6, .ref (mad E (250))), (7, .ref (mad E (251)))]) hx hb dL_law_394 hl (k := 11) rfl (by rw [← e_v_181]; rfl) (by decide) rfl (fun ls hl => ?_)
                        refine lv_goto (tgt := 161) hx hb dL_law_397 (by decide) ?_
                        exact ih _ _ _ _ _ _ hT Z (lv_sub hl [4, 5, 6, 7, 8, 9, 10, 11, 0] rfl) _ _ ⟨by omega, by omega⟩ k0 k1 k2 k3 k4
                      · replace hT := mx_t hT h_180
                        cases hT
                        refine W.widen (k := cF) (n := sF) (by omega) (by omega) ?_
                        exact k4 rfl _ _ _ Z (lv_sub hl [3, 4, 5, 6, 7, 8, 9, 10] rfl)
                  · replace hT := mx_t hT h_174
                    refine lv_aload_n hx hb dL_law_325 rfl (lv_at hl 4 rfl) ?_
                    obtain ⟨q_182, h_q_182, hT⟩ := mx_bind hT
                    refine mx_callV (As := []) (rest := []) (st1 := [.int (q_182.1)]) (C := RX5) (T := TX5) (N := 6) (ci := 5) X Z hl.1 (c5_undo l E hJ hy1 _ _ h_q_182) wd_7_17 wd_7_18 wd_7_19 wd_1_2 wd_7_20 hd5_undo ⟨Nat.le_trans (by decide) hR.1, Nat.le_trans (by decide) hR.2⟩ ⟨by omega, by omega⟩ hy1.i (hy1.c _) rfl (Nat.le_of_ble_eq_true rfl) rfl rfl dL_law_326 (fun H locs Z => ?_)
                    refine lv_iload hx hb dL_law_329 (lv_at hl 0 rfl) ?_
                    refine lv_icmp_eq (tgt := 336) hx hb dL_law_331 (by decide) (fun h_183 => ?_) (fun h_183 => ?_)
                    · replace hT := mx_t hT h_183
                      refine lv_aload hx hb dL_law_336 (lv_at hl 8 rfl) ?_
                      refine lv_aload_n hx hb dL_law_338 rfl (lv_at hl 5 rfl) ?_
                      obtain ⟨q_184, h_q_184, hT⟩ := mx_bind hT
                      refine mx_callS (As := [.ref (mad E (249)), .ref (mad E (246))]) (rest := []) (st1 := []) X Z hl.1 (mL_copy l E hJ hy5 hy2 _ _ h_q_184) wd_17_0 wd_17_1 wd_10_7 wd_17_2 hdL_copy ⟨Nat.le_trans (by decide) hR.1, Nat.le_trans (by decide) hR.2⟩ ⟨by omega, by omega⟩ (Nat.le_of_ble_eq_true rfl) rfl rfl dL_law_339 (fun H locs Z => ?_)
                      refine lv_aload hx hb dL_law_342 (lv_at hl 9 rfl) ?_
                      refine lv_aload_n hx hb dL_law_344 rfl (lv_at hl 6 rfl) ?_
                      obtain ⟨q_185, h_q_185, hT⟩ := mx_bind hT
                      refine mx_callS (As := [.ref (mad E (250)), .ref (mad E (247))]) (rest := []) (st1 := []) X Z hl.1 (mL_copy l E hJ hy6 hy3 _ _ h_q_185) wd_17_0 wd_17_1 wd_10_7 wd_17_2 hdL_copy ⟨Nat.le_trans (by decide) hR.1, Nat.le_trans (by decide) hR.2⟩ ⟨by omega, by omega⟩ (Nat.le_of_ble_eq_true rfl) rfl rfl dL_law_345 (fun H locs Z => ?_)
                      refine lv_aload hx hb dL_law_348 (lv_at hl 10 rfl) ?_
                      refine lv_aload hx hb dL_law_350 (lv_at hl 7 rfl) ?_
                      obtain ⟨q_186, h_q_186, hT⟩ := mx_bind hT
                      refine mx_callS (As := [.ref (mad E (251)), .ref (mad E (248))]) (rest := []) (st1 := []) X Z hl.1 (mL_copy l E hJ hy7 hy4 _ _ h_q_186) wd_17_0 wd_17_1 wd_10_7 wd_17_2 hdL_copy ⟨Nat.le_trans (by decide) hR.1, Nat.le_trans (by decide) hR.2⟩ ⟨by omega, by omega⟩ (Nat.le_of_ble_eq_true rfl) rfl rfl dL_law_352 (fun H locs Z => ?_)
                      refine lv_aload_n hx hb dL_law_355 rfl (lv_at hl 4 rfl) ?_
                      refine lv_aload_n hx hb dL_law_356 rfl (lv_at hl 5 rfl) ?_
                      refine lv_aload_n hx hb dL_law_357 rfl (lv_at hl 6 rfl) ?_
                      refine lv_aload hx hb dL_law_358 (lv_at hl 7 rfl) ?_
                      obtain ⟨q_187, h_q_187, hT⟩ := mx_bind hT
                      refine mx_callS (As := [.ref (mad E (240)), .ref (mad E (246)), .ref (mad E (247)), .ref (mad E (248))]) (rest := []) (st1 := [.int (q_187)]) X Z hl.1 (mL_told l E hJ hy1 hy2 hy3 hy4 _ _ h_q_187) wd_10_5 wd_10_6 wd_10_7 wd_10_8 hdL_told ⟨Nat.le_trans (by decide) hR.1, Nat.le_trans (by decide) hR.2⟩ ⟨by omega, by omega⟩ (Nat.le_of_ble_eq_true rfl) rfl rfl dL_law_360 (fun H locs Z => ?_)
                      refine lv_if_ne (tgt := 368) hx hb dL_law_363 (by decide) (fun h_188 => ?_) (fun h_188 => ?_)
                      · replace hT := mx_f hT h_188
                        unfold xL_law_T_J368 at hT
                        refine lv_iload hx hb dL_law_368 (lv_at hl 11 rfl) ?_
                        refine lv_bipush (v := (6 : Int32)) hx hb dL_law_370 (by decide) ?_
                        refine lv_irem hx hb dL_law_372 (by decide) ?_
                        refine lv_iconst (v := (5 : Int32)) hx hb dL_law_373 (by decide) ?_
                        refine lv_icmp_ne (tgt := 394) hx hb dL_law_374 (by decide) (fun h_189 => ?_) (fun h_189 => ?_)
                        · replace hT := mx_f hT h_189
                          obtain ⟨v_190, e_v_190, hT⟩ := mx_nm hT
                          refine lv_iinc (v := v_190) (lv' := [(8, .int (v_190)), (11, .int (q_59)), (10, .int (v_55)), (9, .int (v_53)), (0, .ref b), (1, .ref (mad E (240))), (2, .ref (mad E (246))), (3, .ref (mad E (247))), (4, .ref (mad E (248))), (5, .ref (mad E (249))), (6, .ref (mad E (250))), (7, .ref (mad E (251)))]) hx hb dL_law_394 hl (k := 11) rfl (by rw [← e_v_190]; rfl) (by decide) rfl (fun ls hl => ?_)
                          refine lv_goto (tgt := 161) hx hb dL_law_397 (by decide) ?_
                          exact ih _ _ _ _ _ _ hT Z (lv_sub hl [4, 5, 6, 7, 8, 9, 10, 11, 0] rfl) _ _ ⟨by omega, by omega⟩ k0 k1 k2 k3 k4
                        · replace hT := mx_t hT h_189
                          refine lv_aload_n hx hb dL_law_377 rfl (lv_at hl 4 rfl) ?_
                          refine lv_iload hx hb dL_law_378 (lv_at hl 1 rfl) ?_
                          refine lv_iconst (v := (2 : Int32)) hx hb dL_law_380 (by decide) ?_
                          refine lv_ishr hx hb dL_law_381 ?_
                          refine lv_aload_n hx hb dL_law_382 rfl (lv_at hl 5 rfl) ?_
                          refine lv_aload_n hx hb dL_law_383 rfl (lv_at hl 6 rfl) ?_
                          refine lv_aload hx hb dL_law_384 (lv_at hl 7 rfl) ?_
                          obtain ⟨h_191, hT⟩ := mx_chk hT
                          obtain ⟨q_192, h_q_192, hT⟩ := mx_bind hT
                          obtain ⟨h_193, hT⟩ := mx_chk hT
                          refine mx_callSN (cells := cN) (slots := sN) (As := [.ref (mad E (240)), .int (v_55 >>> ((2 : Int32) &&& 31)), .ref (mad E (246)), .ref (mad E (247)), .ref (mad E (248))]) (rest := []) (st1 := [.int q_192.1]) X Z hl.1 (mL_ahead l E hJ hI _ _ _ h_q_192 h_191 h_193) wd_23_3 wd_23_4 wd_10_7 wd_23_5 hdL_ahead ⟨Nat.le_trans (by decide) hR.1, Nat.le_trans (by decide) hR.2⟩ ⟨by omega, by omega⟩ (Nat.le_of_ble_eq_true rfl) rfl rfl dL_law_386 (fun H locs Z => ?_)
                          refine lv_if_ne (tgt := 394) hx hb dL_law_389 (by decide) (fun h_194 => ?_) (fun h_194 => ?_)
                          · replace hT := mx_f hT h_194
                            obtain ⟨v_195, e_v_195, hT⟩ := mx_nm hT
                            refine lv_iinc (v := v_195) (lv' := [(8, .int (v_195)), (11, .int (q_59)), (10, .int (v_55)), (9, .int (v_53)), (0, .ref b), (1, .ref (mad E (240))), (2, .ref (mad E (246))), (3, .ref (mad E (247))), (4, .ref (mad E (248))), (5, .ref (mad E (249))), (6, .ref (mad E (250))), (7, .ref (mad E (251)))]) hx hb dL_law_394 hl (k := 11) rfl (by rw [← e_v_195]; rfl) (by decide) rfl (fun ls hl => ?_)
                            refine lv_goto (tgt := 161) hx hb dL_law_397 (by decide) ?_
                            exact ih _ _ _ _ _ _ hT Z (lv_sub hl [4, 5, 6, 7, 8, 9, 10, 11, 0] rfl) _ _ ⟨by omega, by omega⟩ k0 k1 k2 k3 k4
                          · replace hT := mx_t hT h_194
                            cases hT
                            refine W.widen (k := cF) (n := sF) (by omega) (by omega) ?_
                            exact k4 rfl _ _ _ Z (lv_sub hl [3, 4, 5, 6, 7, 8, 9, 10] rfl)
                      · replace hT := mx_t hT h_188
                        cases hT
                        refine W.widen (k := cF) (n := sF) (by omega) (by omega) ?_
                        exact k3 rfl _ _ _ Z (lv_sub hl [3, 4, 5, 6, 7, 8, 9, 10] rfl)
                    · replace hT := mx_f hT h_183
                      cases hT
                      refine W.widen (k := cF) (n := sF) (by omega) (by omega) ?_
                      exact k2 rfl _ _ _ Z (lv_sub hl [3, 4, 5, 6, 7, 8, 9, 10] rfl)
            · replace hT := mx_t hT h_155
              cases hT
              refine W.widen (k := cF) (n := sF) (by omega) (by omega) ?_
              exact k1 rfl _ _ _ Z (lv_sub hl [3, 4, 5, 6, 7, 8, 9, 10] rfl)
      · replace hT := mx_t hT h_60
        refine lv_bipush (v := (15 : Int32)) hx hb dL_law_229 (by decide) ?_
        refine lv_goto (tgt := 267) hx hb dL_law_231 (by decide) ?_
        unfold xL_law_T_J267 at hT
        refine lv_iload hx hb dL_law_267 (lv_at hl 2 rfl) ?_
        refine lv_iload hx hb dL_law_269 (lv_at hl 1 rfl) ?_
        refine lv_aload_n hx hb dL_law_271 rfl (lv_at hl 5 rfl) ?_
        refine lv_aload_n hx hb dL_law_272 rfl (lv_at hl 6 rfl) ?_
        refine lv_aload hx hb dL_law_273 (lv_at hl 7 rfl) ?_
        obtain ⟨q_196, h_q_196, hT⟩ := mx_bind hT
        refine mx_callS (As := [.ref (mad E (240)), .int ((15 : Int32)), .int (v_53), .int (v_55), .ref (mad E (246)), .ref (mad E (247)), .ref (mad E (248))]) (rest := []) (st1 := [.int (q_196.1)]) X Z hl.1 (mL_act l E hJ hy1 hy2 hy3 hy4 _ _ _ _ _ h_q_196) wd_17_6 wd_17_7 wd_10_7 wd_17_8 hdL_act ⟨Nat.le_trans (by decide) hR.1, Nat.le_trans (by decide) hR.2⟩ ⟨by omega, by omega⟩ (Nat.le_of_ble_eq_true rfl) rfl rfl dL_law_275 (fun H locs Z => ?_)
        refine lv_if_eq (tgt := 292) hx hb dL_law_278 (by decide) (fun h_197 => ?_) (fun h_197 => ?_)
        · replace hT := mx_t hT h_197
          cases hT
          refine W.widen (k := cF) (n := sF) (by omega) (by omega) ?_
          exact k1 rfl _ _ _ Z (lv_sub hl [3, 4, 5, 6, 7, 8, 9, 10] rfl)
        · replace hT := mx_f hT h_197
          refine lv_aload_n hx hb dL_law_281 rfl (lv_at hl 4 rfl) ?_
          refine lv_aload_n hx hb dL_law_282 rfl (lv_at hl 5 rfl) ?_
          refine lv_aload_n hx hb dL_law_283 rfl (lv_at hl 6 rfl) ?_
          refine lv_aload hx hb dL_law_284 (lv_at hl 7 rfl) ?_
          obtain ⟨q_198, h_q_198, hT⟩ := mx_bind hT
          refine mx_callS (As := [.ref (mad E (240)), .ref (mad E (246)), .ref (mad E (247)), .ref (mad E (248))]) (rest := []) (st1 := [.int (q_198)]) X Z hl.1 (mL_told l E hJ hy1 hy2 hy3 hy4 _ _ h_q_198) wd_10_5 wd_10_6 wd_10_7 wd_10_8 hdL_told ⟨Nat.le_trans (by decide) hR.1, Nat.le_trans (by decide) hR.2⟩ ⟨by omega, by omega⟩ (Nat.le_of_ble_eq_true rfl) rfl rfl dL_law_286 (fun H locs Z => ?_)
          refine lv_if_ne (tgt := 294) hx hb dL_law_289 (by decide) (fun h_199 => ?_) (fun h_199 => ?_)
          · replace hT := mx_f hT h_199
            refine lv_iload hx hb dL_law_294 (lv_at hl 0 rfl) ?_
            refine lv_bipush (v := (8 : Int32)) hx hb dL_law_296 (by decide) ?_
            refine lv_icmp_ge (tgt := 368) hx hb dL_law_298 (by decide) (fun h_200 => ?_) (fun h_200 => ?_)
            · replace hT := mx_t hT h_200
              unfold xL_law_T_J368 at hT
              refine lv_iload hx hb dL_law_368 (lv_at hl 11 rfl) ?_
              refine lv_bipush (v := (6 : Int32)) hx hb dL_law_370 (by decide) ?_
              refine lv_irem hx hb dL_law_372 (by decide) ?_
              refine lv_iconst (v := (5 : Int32)) hx hb dL_law_373 (by decide) ?_
              refine lv_icmp_ne (tgt := 394) hx hb dL_law_374 (by decide) (fun h_201 => ?_) (fun h_201 => ?_)
              · replace hT := mx_f hT h_201
                obtain ⟨v_202, e_v_202, hT⟩ := mx_nm hT
                refine lv_iinc (v := v_202) (lv' := [(8, .int (v_202)), (11, .int (q_59)), (10, .int (v_55)), (9, .int (v_53)), (0, .ref b), (1, .ref (mad E (240))), (2, .ref (mad E (246))), (3, .ref (mad E (247))), (4, .ref (mad E (248))), (5, .ref (mad E (249))), (6, .ref (mad E (250))), (7, .ref (mad E (251)))]) hx hb dL_law_394 hl (k := 11) rfl (by rw [← e_v_202]; rfl) (by decide) rfl (fun ls hl => ?_)
                refine lv_goto (tgt := 161) hx hb dL_law_397 (by decide) ?_
                exact ih _ _ _ _ _ _ hT Z (lv_sub hl [4, 5, 6, 7, 8, 9, 10, 11, 0] rfl) _ _ ⟨by omega, by omega⟩ k0 k1 k2 k3 k4
              · replace hT := mx_t hT h_201
                refine lv_aload_n hx hb dL_law_377 rfl (lv_at hl 4 rfl) ?_
                refine lv_iload hx hb dL_law_378 (lv_at hl 1 rfl) ?_
                refine lv_iconst (v := (2 : Int32)) hx hb dL_law_380 (by decide) ?_
                refine lv_ishr hx hb dL_law_381 ?_
                refine lv_aload_n hx hb dL_law_382 rfl (lv_at hl 5 rfl) ?_
                refine lv_aload_n hx hb dL_law_383 rfl (lv_at hl 6 rfl) ?_
                refine lv_aload hx hb dL_law_384 (lv_at hl 7 rfl) ?_
                obtain ⟨h_203, hT⟩ := mx_chk hT
                obtain ⟨q_204, h_q_204, hT⟩ := mx_bind hT
                obtain ⟨h_205, hT⟩ := mx_chk hT
                refine mx_callSN (cells := cN) (slots := sN) (As := [.ref (mad E (240)), .int (v_55 >>> ((2 : Int32) &&& 31)), .ref (mad E (246)), .ref (mad E (247)), .ref (mad E (248))]) (rest := []) (st1 := [.int q_204.1]) X Z hl.1 (mL_ahead l E hJ hI _ _ _ h_q_204 h_203 h_205) wd_23_3 wd_23_4 wd_10_7 wd_23_5 hdL_ahead ⟨Nat.le_trans (by decide) hR.1, Nat.le_trans (by decide) hR.2⟩ ⟨by omega, by omega⟩ (Nat.le_of_ble_eq_true rfl) rfl rfl dL_law_386 (fun H locs Z => ?_)
                refine lv_if_ne (tgt := 394) hx hb dL_law_389 (by decide) (fun h_206 => ?_) (fun h_206 => ?_)
                · replace hT := mx_f hT h_206
                  obtain ⟨v_207, e_v_207, hT⟩ := mx_nm hT
                  refine lv_iinc (v := v_207) (lv' := [(8, .int (v_207)), (11, .int (q_59)), (10, .int (v_55)), (9, .int (v_53)), (0, .ref b), (1, .ref (mad E (240))), (2, .ref (mad E (246))), (3, .ref (mad E (247))), (4, .ref (mad E (248))), (5, .ref (mad E (249))), (6, .ref (mad E (250))), (7, .ref (mad E (251)))]) hx hb dL_law_394 hl (k := 11) rfl (by rw [← e_v_207]; rfl) (by decide) rfl (fun ls hl => ?_)
                  refine lv_goto (tgt := 161) hx hb dL_law_397 (by decide) ?_
                  exact ih _ _ _ _ _ _ hT Z (lv_sub hl [4, 5, 6, 7, 8, 9, 10, 11, 0] rfl) _ _ ⟨by omega, by omega⟩ k0 k1 k2 k3 k4
                · replace hT := mx_t hT h_206
                  cases hT
                  refine W.widen (k := cF) (n := sF) (by omega) (by omega) ?_
                  exact k4 rfl _ _ _ Z (lv_sub hl [3, 4, 5, 6, 7, 8, 9, 10] rfl)
            · replace hT := mx_f hT h_200
              refine lv_aload_n hx hb dL_law_301 rfl (lv_at hl 4 rfl) ?_
              refine lv_iconst (v := (5 : Int32)) hx hb dL_law_302 (by decide) ?_
              obtain ⟨q_208, h_q_208, hT⟩ := mx_bind hT
              refine mx_callV (As := [.int ((5 : Int32))]) (rest := []) (st1 := [.int (q_208)]) (C := RX5) (T := TX5) (N := 6) (ci := 5) X Z hl.1 (c5_count l E hJ hy1 _ _ _ h_q_208) wd_15_10 wd_15_11 wd_15_12 wd_1_2 wd_15_13 hd5_count ⟨Nat.le_trans (by decide) hR.1, Nat.le_trans (by decide) hR.2⟩ ⟨by omega, by omega⟩ hy1.i (hy1.c _) rfl (Nat.le_of_ble_eq_true rfl) rfl rfl dL_law_303 (fun H locs Z => ?_)
              refine lv_iload hx hb dL_law_306 (lv_at hl 0 rfl) ?_
              refine lv_iconst (v := (1 : Int32)) hx hb dL_law_308 (by decide) ?_
              refine lv_iadd hx hb dL_law_309 ?_
              refine lv_icmp_ne (tgt := 368) hx hb dL_law_310 (by decide) (fun h_209 => ?_) (fun h_209 => ?_)
              · replace hT := mx_f hT h_209
                unfold xL_law_T_J368 at hT
                refine lv_iload hx hb dL_law_368 (lv_at hl 11 rfl) ?_
                refine lv_bipush (v := (6 : Int32)) hx hb dL_law_370 (by decide) ?_
                refine lv_irem hx hb dL_law_372 (by decide) ?_
                refine lv_iconst (v := (5 : Int32)) hx hb dL_law_373 (by decide) ?_
                refine lv_icmp_ne (tgt := 394) hx hb dL_law_374 (by decide) (fun h_210 => ?_) (fun h_210 => ?_)
                · replace hT := mx_f hT h_210
                  obtain ⟨v_211, e_v_211, hT⟩ := mx_nm hT
                  refine lv_iinc (v := v_211) (lv' := [(8, .int (v_211)), (11, .int (q_59)), (10, .int (v_55)), (9, .int (v_53)), (0, .ref b), (1, .ref (mad E (240))), (2, .ref (mad E (246))), (3, .ref (mad E (247))), (4, .ref (mad E (248))), (5, .ref (mad E (249))), (6, .ref (mad E (250))), (7, .ref (mad E (251)))]) hx hb dL_law_394 hl (k := 11) rfl (by rw [← e_v_211]; rfl) (by decide) rfl (fun ls hl => ?_)
                  refine lv_goto (tgt := 161) hx hb dL_law_397 (by decide) ?_
                  exact ih _ _ _ _ _ _ hT Z (lv_sub hl [4, 5, 6, 7, 8, 9, 10, 11, 0] rfl) _ _ ⟨by omega, by omega⟩ k0 k1 k2 k3 k4
                · replace hT := mx_t hT h_210
                  refine lv_aload_n hx hb dL_law_377 rfl (lv_at hl 4 rfl) ?_
                  refine lv_iload hx hb dL_law_378 (lv_at hl 1 rfl) ?_
                  refine lv_iconst (v := (2 : Int32)) hx hb dL_law_380 (by decide) ?_
                  refine lv_ishr hx hb dL_law_381 ?_
                  refine lv_aload_n hx hb dL_law_382 rfl (lv_at hl 5 rfl) ?_
                  refine lv_aload_n hx hb dL_law_383 rfl (lv_at hl 6 rfl) ?_
                  refine lv_aload hx hb dL_law_384 (lv_at hl 7 rfl) ?_
                  obtain ⟨h_212, hT⟩ := mx_chk hT
                  obtain ⟨q_213, h_q_213, hT⟩ := mx_bind hT
                  obtain ⟨h_214, hT⟩ := mx_chk hT
                  refine mx_callSN (cells := cN) (slots := sN) (As := [.ref (mad E (240)), .int (v_55 >>> ((2 : Int32) &&& 31)), .ref (mad E (246)), .ref (mad E (247)), .ref (mad E (248))]) (rest := []) (st1 := [.int q_213.1]) X Z hl.1 (mL_ahead l E hJ hI _ _ _ h_q_213 h_212 h_214) wd_23_3 wd_23_4 wd_10_7 wd_23_5 hdL_ahead ⟨Nat.le_trans (by decide) hR.1, Nat.le_trans (by decide) hR.2⟩ ⟨by omega, by omega⟩ (Nat.le_of_ble_eq_true rfl) rfl rfl dL_law_386 (fun H locs Z => ?_)
                  refine lv_if_ne (tgt := 394) hx hb dL_law_389 (by decide) (fun h_215 => ?_) (fun h_215 => ?_)
                  · replace hT := mx_f hT h_215
                    obtain ⟨v_216, e_v_216, hT⟩ := mx_nm hT
                    refine lv_iinc (v := v_216) (lv' := [(8, .int (v_216)), (11, .int (q_59)), (10, .int (v_55)), (9, .int (v_53)), (0, .ref b), (1, .ref (mad E (240))), (2, .ref (mad E (246))), (3, .ref (mad E (247))), (4, .ref (mad E (248))), (5, .ref (mad E (249))), (6, .ref (mad E (250))), (7, .ref (mad E (251)))]) hx hb dL_law_394 hl (k := 11) rfl (by rw [← e_v_216]; rfl) (by decide) rfl (fun ls hl => ?_)
                    refine lv_goto (tgt := 161) hx hb dL_law_397 (by decide) ?_
                    exact ih _ _ _ _ _ _ hT Z (lv_sub hl [4, 5, 6, 7, 8, 9, 10, 11, 0] rfl) _ _ ⟨by omega, by omega⟩ k0 k1 k2 k3 k4
                  · replace hT := mx_t hT h_215
                    cases hT
                    refine W.widen (k := cF) (n := sF) (by omega) (by omega) ?_
                    exact k4 rfl _ _ _ Z (lv_sub hl [3, 4, 5, 6, 7, 8, 9, 10] rfl)
              · replace hT := mx_t hT h_209
                refine lv_iload hx hb dL_law_313 (lv_at hl 1 rfl) ?_
                refine lv_bipush (v := (12 : Int32)) hx hb dL_law_315 (by decide) ?_
                refine lv_ishr hx hb dL_law_317 ?_
                refine lv_iconst (v := (5 : Int32)) hx hb dL_law_318 (by decide) ?_
                obtain ⟨q_217, h_q_217, hT⟩ := mx_bind hT
                refine mx_callS (As := [.int (v_55 >>> ((12 : Int32) &&& 31)), .int ((5 : Int32))]) (rest := []) (st1 := [.int (q_217)]) X Z hl.1 (mL_at l E hJ _ _ _ _ h_q_217) wd_17_3 wd_17_4 wd_10_7 wd_17_5 hdL_at ⟨Nat.le_trans (by decide) hR.1, Nat.le_trans (by decide) hR.2⟩ ⟨by omega, by omega⟩ (Nat.le_of_ble_eq_true rfl) rfl rfl dL_law_319 (fun H locs Z => ?_)
                refine lv_if_ne (tgt := 368) hx hb dL_law_322 (by decide) (fun h_218 => ?_) (fun h_218 => ?_)
                · replace hT := mx_f hT h_218
                  unfold xL_law_T_J368 at hT
                  refine lv_iload hx hb dL_law_368 (lv_at hl 11 rfl) ?_
                  refine lv_bipush (v := (6 : Int32)) hx hb dL_law_370 (by decide) ?_
                  refine lv_irem hx hb dL_law_372 (by decide) ?_
                  refine lv_iconst (v := (5 : Int32)) hx hb dL_law_373 (by decide) ?_
                  refine lv_icmp_ne (tgt := 394) hx hb dL_law_374 (by decide) (fun h_219 => ?_) (fun h_219 => ?_)
                  · replace hT := mx_f hT h_219
                    obtain ⟨v_220, e_v_220, hT⟩ := mx_nm hT
                    refine lv_iinc (v := v_220) (lv' := [(8, .int (v_220)), (11, .int (q_59)), (10, .int (v_55)), (9, .int (v_53)), (0, .ref b), (1, .ref (mad E (240))), (2, .ref (mad E (246))), (3, .ref (mad E (247))), (4, .ref (mad E (248))), (5, .ref (mad E (249))), (6, .ref (mad E (250))), (7, .ref (mad E (251)))]) hx hb dL_law_394 hl (k := 11) rfl (by rw [← e_v_220]; rfl) (by decide) rfl (fun ls hl => ?_)
                    refine lv_goto (tgt := 161) hx hb dL_law_397 (by decide) ?_
                    exact ih _ _ _ _ _ _ hT Z (lv_sub hl [4, 5, 6, 7, 8, 9, 10, 11, 0] rfl) _ _ ⟨by omega, by omega⟩ k0 k1 k2 k3 k4
                  · replace hT := mx_t hT h_219
                    refine lv_aload_n hx hb dL_law_377 rfl (lv_at hl 4 rfl) ?_
                    refine lv_iload hx hb dL_law_378 (lv_at hl 1 rfl) ?_
                    refine lv_iconst (v := (2 : Int32)) hx hb dL_law_380 (by decide) ?_
                    refine lv_ishr hx hb dL_law_381 ?_
                    refine lv_aload_n hx hb dL_law_382 rfl (lv_at hl 5 rfl) ?_
                    refine lv_aload_n hx hb dL_law_383 rfl (lv_at hl 6 rfl) ?_
                    refine lv_aload hx hb dL_law_384 (lv_at hl 7 rfl) ?_
                    obtain ⟨h_221, hT⟩ := mx_chk hT
                    obtain ⟨q_222, h_q_222, hT⟩ := mx_bind hT
                    obtain ⟨h_223, hT⟩ := mx_chk hT
                    refine mx_callSN (cells := cN) (slots := sN) (As := [.ref (mad E (240)), .int (v_55 >>> ((2 : Int32) &&& 31)), .ref (mad E (246)), .ref (mad E (247)), .ref (mad E (248))]) (rest := []) (st1 := [.int q_222.1]) X Z hl.1 (mL_ahead l E hJ hI _ _ _ h_q_222 h_221 h_223) wd_23_3 wd_23_4 wd_10_7 wd_23_5 hdL_ahead ⟨Nat.le_trans (by decide) hR.1, Nat.le_trans (by decide) hR.2⟩ ⟨by omega, by omega⟩ (Nat.le_of_ble_eq_true rfl) rfl rfl dL_law_386 (fun H locs Z => ?_)
                    refine lv_if_ne (tgt := 394) hx hb dL_law_389 (by decide) (fun h_224 => ?_) (fun h_224 => ?_)
                    · replace hT := mx_f hT h_224
                      obtain ⟨v_225, e_v_225, hT⟩ := mx_nm hT
                      refine lv_iinc (v := v_225) (lv' := [(8, .int (v_225)), (11, .int (q_59)), (10, .int (v_55)), (9, .int (v_53)), (0, .ref b), (1, .ref (mad E (240))), (2, .ref (mad E (246))), (3, .ref (mad E (247))), (4, .ref (mad E (248))), (5, .ref (mad E (249))), (6, .ref (mad E (250))), (7, .ref (mad E (251)))]) hx hb dL_law_394 hl (k := 11) rfl (by rw [← e_v_225]; rfl) (by decide) rfl (fun ls hl => ?_)
                      refine lv_goto (tgt := 161) hx hb dL_law_397 (by decide) ?_
                      exact ih _ _ _ _ _ _ hT Z (lv_sub hl [4, 5, 6, 7, 8, 9, 10, 11, 0] rfl) _ _ ⟨by omega, by omega⟩ k0 k1 k2 k3 k4
                    · replace hT := mx_t hT h_224
                      cases hT
                      refine W.widen (k := cF) (n := sF) (by omega) (by omega) ?_
                      exact k4 rfl _ _ _ Z (lv_sub hl [3, 4, 5, 6, 7, 8, 9, 10] rfl)
                · replace hT := mx_t hT h_218
                  refine lv_aload_n hx hb dL_law_325 rfl (lv_at hl 4 rfl) ?_
                  obtain ⟨q_226, h_q_226, hT⟩ := mx_bind hT
                  refine mx_callV (As := []) (rest := []) (st1 := [.int (q_226.1)]) (C := RX5) (T := TX5) (N := 6) (ci := 5) X Z hl.1 (c5_undo l E hJ hy1 _ _ h_q_226) wd_7_17 wd_7_18 wd_7_19 wd_1_2 wd_7_20 hd5_undo ⟨Nat.le_trans (by decide) hR.1, Nat.le_trans (by decide) hR.2⟩ ⟨by omega, by omega⟩ hy1.i (hy1.c _) rfl (Nat.le_of_ble_eq_true rfl) rfl rfl dL_law_326 (fun H locs Z => ?_)
                  refine lv_iload hx hb dL_law_329 (lv_at hl 0 rfl) ?_
                  refine lv_icmp_eq (tgt := 336) hx hb dL_law_331 (by decide) (fun h_227 => ?_) (fun h_227 => ?_)
                  · replace hT := mx_t hT h_227
                    refine lv_aload hx hb dL_law_336 (lv_at hl 8 rfl) ?_
                    refine lv_aload_n hx hb dL_law_338 rfl (lv_at hl 5 rfl) ?_
                    obtain ⟨q_228, h_q_228, hT⟩ := mx_bind hT
                    refine mx_callS (As := [.ref (mad E (249)), .ref (mad E (246))]) (rest := []) (st1 := []) X Z hl.1 (mL_copy l E hJ hy5 hy2 _ _ h_q_228) wd_17_0 wd_17_1 wd_10_7 wd_17_2 hdL_copy ⟨Nat.le_trans (by decide) hR.1, Nat.le_trans (by decide) hR.2⟩ ⟨by omega, by omega⟩ (Nat.le_of_ble_eq_true rfl) rfl rfl dL_law_339 (fun H locs Z => ?_)
                    refine lv_aload hx hb dL_law_342 (lv_at hl 9 rfl) ?_
                    refine lv_aload_n hx hb dL_law_344 rfl (lv_at hl 6 rfl) ?_
                    obtain ⟨q_229, h_q_229, hT⟩ := mx_bind hT
                    refine mx_callS (As := [.ref (mad E (250)), .ref (mad E (247))]) (rest := []) (st1 := []) X Z hl.1 (mL_copy l E hJ hy6 hy3 _ _ h_q_229) wd_17_0 wd_17_1 wd_10_7 wd_17_2 hdL_copy ⟨Nat.le_trans (by decide) hR.1, Nat.le_trans (by decide) hR.2⟩ ⟨by omega, by omega⟩ (Nat.le_of_ble_eq_true rfl) rfl rfl dL_law_345 (fun H locs Z => ?_)
                    refine lv_aload hx hb dL_law_348 (lv_at hl 10 rfl) ?_
                    refine lv_aload hx hb dL_law_350 (lv_at hl 7 rfl) ?_
                    obtain ⟨q_230, h_q_230, hT⟩ := mx_bind hT
                    refine mx_callS (As := [.ref (mad E (251)), .ref (mad E (248))]) (rest := []) (st1 := []) X Z hl.1 (mL_copy l E hJ hy7 hy4 _ _ h_q_230) wd_17_0 wd_17_1 wd_10_7 wd_17_2 hdL_copy ⟨Nat.le_trans (by decide) hR.1, Nat.le_trans (by decide) hR.2⟩ ⟨by omega, by omega⟩ (Nat.le_of_ble_eq_true rfl) rfl rfl dL_law_352 (fun H locs Z => ?_)
                    refine lv_aload_n hx hb dL_law_355 rfl (lv_at hl 4 rfl) ?_
                    refine lv_aload_n hx hb dL_law_356 rfl (lv_at hl 5 rfl) ?_
                    refine lv_aload_n hx hb dL_law_357 rfl (lv_at hl 6 rfl) ?_
                    refine lv_aload hx hb dL_law_358 (lv_at hl 7 rfl) ?_
                    obtain ⟨q_231, h_q_231, hT⟩ := mx_bind hT
                    refine mx_callS (As := [.ref (mad E (240)), .ref (mad E (246)), .ref (mad E (247)), .ref (mad E (248))]) (rest := []) (st1 := [.int (q_231)]) X Z hl.1 (mL_told l E hJ hy1 hy2 hy3 hy4 _ _ h_q_231) wd_10_5 wd_10_6 wd_10_7 wd_10_8 hdL_told ⟨Nat.le_trans (by decide) hR.1, Nat.le_trans (by decide) hR.2⟩ ⟨by omega, by omega⟩ (Nat.le_of_ble_eq_true rfl) rfl rfl dL_law_360 (fun H locs Z => ?_)
                    refine lv_if_ne (tgt := 368) hx hb dL_law_363 (by decide) (fun h_232 => ?_) (fun h_232 => ?_)
                    · replace hT := mx_f hT h_232
                      unfold xL_law_T_J368 at hT
                      refine lv_iload hx hb dL_law_368 (lv_at hl 11 rfl) ?_
                      refine lv_bipush (v := (6 : Int32)) hx hb dL_law_370 (by decide) ?_
                      refine lv_irem hx hb dL_law_372 (by decide) ?_
                      refine lv_iconst (v := (5 : Int32)) hx hb dL_law_373 (by decide) ?_
                      refine lv_icmp_ne (tgt := 394) hx hb dL_law_374 (by decide) (fun h_233 => ?_) (fun h_233 => ?_)
                      · replace hT := mx_f hT h_233
                        obtain ⟨v_234, e_v_234, hT⟩ := mx_nm hT
                        refine lv_iinc (v := v_234) (lv' := [(8, .int (v_234)), (11, .int (q_59)), (10, .int (v_55)), (9, .int (v_53)), (0, .ref b), (1, .ref (mad E (240))), (2, .ref (mad E (246))), (3, .ref (mad E (247))), (4, .ref (mad E (248))), (5, .ref (mad E (249))), (6, .ref (mad E (250))), (7, .ref (mad E (251)))]) hx hb dL_law_394 hl (k := 11) rfl (by rw [← e_v_234]; rfl) (by decide) rfl (fun ls hl => ?_)
                        refine lv_goto (tgt := 161) hx hb dL_law_397 (by decide) ?_
                        exact ih _ _ _ _ _ _ hT Z (lv_sub hl [4, 5, 6, 7, 8, 9, 10, 11, 0] rfl) _ _ ⟨by omega, by omega⟩ k0 k1 k2 k3 k4
                      · replace hT := mx_t hT h_233
                        refine lv_aload_n hx hb dL_law_377 rfl (lv_at hl 4 rfl) ?_
                        refine lv_iload hx hb dL_law_378 (lv_at hl 1 rfl) ?_
                        refine lv_iconst (v := (2 : Int32)) hx hb dL_law_380 (by decide) ?_
                        refine lv_ishr hx hb dL_law_381 ?_
                        refine lv_aload_n hx hb dL_law_382 rfl (lv_at hl 5 rfl) ?_
                        refine lv_aload_n hx hb dL_law_383 rfl (lv_at hl 6 rfl) ?_
                        refine lv_aload hx hb dL_law_384 (lv_at hl 7 rfl) ?_
                        obtain ⟨h_235, hT⟩ := mx_chk hT
                        obtain ⟨q_236, h_q_236, hT⟩ := mx_bind hT
                        obtain ⟨h_237, hT⟩ := mx_chk hT
                        refine mx_callSN (cells := cN) (slots := sN) (As := [.ref (mad E (240)), .int (v_55 >>> ((2 : Int32) &&& 31)), .ref (mad E (246)), .ref (mad E (247)), .ref (mad E (248))]) (rest := []) (st1 := [.int q_236.1]) X Z hl.1 (mL_ahead l E hJ hI _ _ _ h_q_236 h_235 h_237) wd_23_3 wd_23_4 wd_10_7 wd_23_5 hdL_ahead ⟨Nat.le_trans (by decide) hR.1, Nat.le_trans (by decide) hR.2⟩ ⟨by omega, by omega⟩ (Nat.le_of_ble_eq_true rfl) rfl rfl dL_law_386 (fun H locs Z => ?_)
                        refine lv_if_ne (tgt := 394) hx hb dL_law_389 (by decide) (fun h_238 => ?_) (fun h_238 => ?_)
                        · replace hT := mx_f hT h_238
                          obtain ⟨v_239, e_v_239, hT⟩ := mx_nm hT
                          refine lv_iinc (v := v_239) (lv' := [(8, .int (v_239)), (11, .int (q_59)), (10, .int (v_55)), (9, .int (v_53)), (0, .ref b), (1, .ref (mad E (240))), (2, .ref (mad E (246))), (3, .ref (mad E (247))), (4, .ref (mad E (248))), (5, .ref (mad E (249))), (6, .ref (mad E (250))), (7, .ref (mad E (251)))]) hx hb dL_law_394 hl (k := 11) rfl (by rw [← e_v_239]; rfl) (by decide) rfl (fun ls hl => ?_)
                          refine lv_goto (tgt := 161) hx hb dL_law_397 (by decide) ?_
                          exact ih _ _ _ _ _ _ hT Z (lv_sub hl [4, 5, 6, 7, 8, 9, 10, 11, 0] rfl) _ _ ⟨by omega, by omega⟩ k0 k1 k2 k3 k4
                        · replace hT := mx_t hT h_238
                          cases hT
                          refine W.widen (k := cF) (n := sF) (by omega) (by omega) ?_
                          exact k4 rfl _ _ _ Z (lv_sub hl [3, 4, 5, 6, 7, 8, 9, 10] rfl)
                    · replace hT := mx_t hT h_232
                      cases hT
                      refine W.widen (k := cF) (n := sF) (by omega) (by omega) ?_
                      exact k3 rfl _ _ _ Z (lv_sub hl [3, 4, 5, 6, 7, 8, 9, 10] rfl)
                  · replace hT := mx_f hT h_227
                    cases hT
                    refine W.widen (k := cF) (n := sF) (by omega) (by omega) ?_
                    exact k2 rfl _ _ _ Z (lv_sub hl [3, 4, 5, 6, 7, 8, 9, 10] rfl)
          · replace hT := mx_t hT h_199
            cases hT
            refine W.widen (k := cF) (n := sF) (by omega) (by omega) ?_
            exact k1 rfl _ _ _ Z (lv_sub hl [3, 4, 5, 6, 7, 8, 9, 10] rfl)
set_option maxHeartbeats 4000000 in
set_option maxRecDepth 100000 in
theorem tL_law {p : Program} {l : Launch} {e : Env} {R : Room} {s : State} {m : MethodId} {args : Array Value} {below : List Frame} {meth : Method} {cd : Code} {Q : State → Prop} {E : mE} (X : mX p s m args cd cL_law 12 RL E) (hR : 8 ≤ R.frames ∧ 199 ≤ R.locals) (hJ : mJ E) {cN sN cF sF : Nat} (hCF : cF ≤ R.cells ∧ sF ≤ R.slots) (hF : cN + 81 ≤ cF ∧ sN + 1998 ≤ sF) {b : Nat} (hI : mI E = List.range 252) {L : Nat} {xs : Nat → Int32} (hX : va_X b L xs s s.heap) (hbl : b < s.heap.size) (hbA : ¬ mA E b) (hL : L ≤ 260) (hc : mAl E 240) (h2 : mAi E 246 1 10) (h3 : mAi E 247 1 24) (h4 : mAi E 248 1 40) (h5 : mAi E 249 1 10) (h6 : mAi E 250 1 24) (h7 : mAi E 251 1 40) (G : mM) (q : (Int32 × mM)) (hT : xL_law_T L xs G = some q) (kk : ∀ (H : Heap) (locs : List Loc) (ls : Array Slot) (pc : Nat), mZ E s.heap H locs q.2 → mBl q.1 → decode cL_law pc = .ok (.ireturn, 1) → W p l e R s m args below meth cd H locs cF sF Q (F0 m pc ls [.int q.1])) (H : Heap) (locs : List Loc) (ls : Array Slot) (Z : mZ E s.heap H locs G) (hl : lv_has ls 12 [(7, .ref (mad E (251))), (6, .ref (mad E (250))), (5, .ref (mad E (249))), (4, .ref (mad E (248))), (3, .ref (mad E (247))), (2, .ref (mad E (246))), (1, .ref (mad E (240))), (0, .ref b)]) : W p l e R s m args below meth cd H locs cN sN Q (F0 m 42 ls []) := by
  have hx := X.1
  have hb := X.2.1
  have hown := X.2.2.2.1
  have hts := X.2.2.2.2.1
  unfold xL_law_T at hT
  refine lv_aload_n hx hb dL_law_42 rfl (lv_at hl 5 rfl) ?_
  refine lv_iconst (v := (0 : Int32)) hx hb dL_law_43 (by decide) ?_
  refine lv_bipush (v := (7 : Int32)) hx hb dL_law_44 (by decide) ?_
  obtain ⟨G_1, e_G_1, hT⟩ := mx_nm hT
  refine mx_iast X Z h2 (mx_lit (by decide)) dL_law_46 (fun H locs Z => ?_)
  replace Z : mZ E s.heap H locs (up2 G 246 0 ((7 : Int32))) := Z
  rw [e_G_1] at Z
  refine lv_aload_n hx hb dL_law_47 rfl (lv_at hl 5 rfl) ?_
  refine lv_iconst (v := (2 : Int32)) hx hb dL_law_48 (by decide) ?_
  refine lv_sipush (v := (300 : Int32)) hx hb dL_law_49 (by decide) ?_
  obtain ⟨G_2, e_G_2, hT⟩ := mx_nm hT
  refine mx_iast X Z h2 (mx_lit (by decide)) dL_law_52 (fun H locs Z => ?_)
  replace Z : mZ E s.heap H locs (up2 G_1 246 2 ((300 : Int32))) := Z
  rw [e_G_2] at Z
  refine lv_aload_n hx hb dL_law_53 rfl (lv_at hl 5 rfl) ?_
  refine lv_iconst (v := (3 : Int32)) hx hb dL_law_54 (by decide) ?_
  refine lv_iconst (v := (5 : Int32)) hx hb dL_law_55 (by decide) ?_
  obtain ⟨G_3, e_G_3, hT⟩ := mx_nm hT
  refine mx_iast X Z h2 (mx_lit (by decide)) dL_law_56 (fun H locs Z => ?_)
  replace Z : mZ E s.heap H locs (up2 G_2 246 3 ((5 : Int32))) := Z
  rw [e_G_3] at Z
  refine lv_iconst (v := (0 : Int32)) hx hb dL_law_57 (by decide) ?_
  refine lv_istore (lv' := [(8, .int ((0 : Int32))), (7, .ref (mad E (251))), (6, .ref (mad E (250))), (5, .ref (mad E (249))), (4, .ref (mad E (248))), (3, .ref (mad E (247))), (2, .ref (mad E (246))), (1, .ref (mad E (240))), (0, .ref b)]) hx hb dL_law_58 hl (by decide) rfl (fun ls hl => ?_)
  obtain ⟨q_44, h_q_44, hT⟩ := mx_bind hT
  refine kL_law_60 X hR hJ ⟨by omega, by omega⟩ hI hX hbl hbA hL hc h2 h3 h4 h5 h6 h7  _ _ _ _ _ _ _ h_q_44 Z (lv_sub (l' := [(0, .ref b), (1, .ref (mad E (240))), (2, .ref (mad E (246))), (3, .ref (mad E (247))), (4, .ref (mad E (248))), (5, .ref (mad E (249))), (6, .ref (mad E (250))), (7, .ref (mad E (251))), (8, .int ((0 : Int32)))]) hl [8, 7, 6, 5, 4, 3, 2, 1, 0] rfl) (fun H locs ls Z hl => ?_)
  · refine lv_aload_n hx hb dL_law_126 rfl (lv_at hl 1 rfl) ?_
    obtain ⟨q_45, h_q_45, hT⟩ := mx_bind hT
    refine mx_callV (As := []) (rest := []) (st1 := [.int (q_45.1)]) (C := RX5) (T := TX5) (N := 6) (ci := 5) X Z hl.1 (c5_undo l E hJ hc _ _ h_q_45) wd_7_17 wd_7_18 wd_7_19 wd_1_2 wd_7_20 hd5_undo ⟨Nat.le_trans (by decide) hR.1, Nat.le_trans (by decide) hR.2⟩ ⟨by omega, by omega⟩ hc.i (hc.c _) rfl (Nat.le_of_ble_eq_true rfl) rfl rfl dL_law_127 (fun H locs Z => ?_)
    refine lv_bipush (v := (-3 : Int32)) hx hb dL_law_130 (by decide) ?_
    refine lv_icmp_ne (tgt := 156) hx hb dL_law_132 (by decide) (fun h_46 => ?_) (fun h_46 => ?_)
    · replace hT := mx_f hT h_46
      refine lv_iconst (v := (0 : Int32)) hx hb dL_law_156 (by decide) ?_
      cases hT
      refine W.widen (k := cF) (n := sF) (by omega) (by omega) ?_
      exact kk _ _ _ _ Z (Or.inl rfl) dL_law_157
    · replace hT := mx_t hT h_46
      refine lv_aload_n hx hb dL_law_135 rfl (lv_at hl 1 rfl) ?_
      refine lv_iconst (v := (0 : Int32)) hx hb dL_law_136 (by decide) ?_
      obtain ⟨q_47, h_q_47, hT⟩ := mx_bind hT
      refine mx_callV (As := [.int ((0 : Int32))]) (rest := []) (st1 := [.int (q_47.1)]) (C := RX5) (T := TX5) (N := 6) (ci := 5) X Z hl.1 (c5_back l E hJ hc _ _ _ h_q_47) wd_9_11 wd_9_12 wd_9_13 wd_1_2 wd_9_14 hd5_back ⟨Nat.le_trans (by decide) hR.1, Nat.le_trans (by decide) hR.2⟩ ⟨by omega, by omega⟩ hc.i (hc.c _) rfl (Nat.le_of_ble_eq_true rfl) rfl rfl dL_law_137 (fun H locs Z => ?_)
      refine lv_bipush (v := (-3 : Int32)) hx hb dL_law_140 (by decide) ?_
      refine lv_icmp_ne (tgt := 156) hx hb dL_law_142 (by decide) (fun h_48 => ?_) (fun h_48 => ?_)
      · replace hT := mx_f hT h_48
        refine lv_iconst (v := (0 : Int32)) hx hb dL_law_156 (by decide) ?_
        cases hT
        refine W.widen (k := cF) (n := sF) (by omega) (by omega) ?_
        exact kk _ _ _ _ Z (Or.inl rfl) dL_law_157
      · replace hT := mx_t hT h_48
        refine lv_aload_n hx hb dL_law_145 rfl (lv_at hl 1 rfl) ?_
        refine lv_aload_n hx hb dL_law_146 rfl (lv_at hl 2 rfl) ?_
        refine lv_aload_n hx hb dL_law_147 rfl (lv_at hl 3 rfl) ?_
        refine lv_aload hx hb dL_law_148 (lv_at hl 4 rfl) ?_
        obtain ⟨q_49, h_q_49, hT⟩ := mx_bind hT
        refine mx_callS (As := [.ref (mad E (240)), .ref (mad E (246)), .ref (mad E (247)), .ref (mad E (248))]) (rest := []) (st1 := [.int (q_49)]) X Z hl.1 (mL_told l E hJ hc h2 h3 h4 _ _ h_q_49) wd_10_5 wd_10_6 wd_10_7 wd_10_8 hdL_told ⟨Nat.le_trans (by decide) hR.1, Nat.le_trans (by decide) hR.2⟩ ⟨by omega, by omega⟩ (Nat.le_of_ble_eq_true rfl) rfl rfl dL_law_150 (fun H locs Z => ?_)
        refine lv_if_ne (tgt := 158) hx hb dL_law_153 (by decide) (fun h_50 => ?_) (fun h_50 => ?_)
        · replace hT := mx_f hT h_50
          refine lv_iconst (v := (1 : Int32)) hx hb dL_law_158 (by decide) ?_
          refine lv_istore (lv' := [(8, .int ((1 : Int32))), (0, .ref b), (1, .ref (mad E (240))), (2, .ref (mad E (246))), (3, .ref (mad E (247))), (4, .ref (mad E (248))), (5, .ref (mad E (249))), (6, .ref (mad E (250))), (7, .ref (mad E (251)))]) hx hb dL_law_159 hl (by decide) rfl (fun ls hl => ?_)
          obtain ⟨q_240, h_q_240, hT⟩ := mx_bind hT
          refine kL_law_161 X hR hJ hCF hI hX hbl hbA hL hc h2 h3 h4 h5 h6 h7  _ _ _ _ _ _ _ h_q_240 Z (lv_sub (l' := [(0, .ref b), (1, .ref (mad E (240))), (2, .ref (mad E (246))), (3, .ref (mad E (247))), (4, .ref (mad E (248))), (5, .ref (mad E (249))), (6, .ref (mad E (250))), (7, .ref (mad E (251))), (8, .int ((1 : Int32)))]) hl [1, 2, 3, 4, 5, 6, 7, 8, 0] rfl) _ _ ⟨by omega, by omega⟩ (fun ht H locs ls Z hl => ?_) (fun ht H locs ls Z hl => ?_) (fun ht H locs ls Z hl => ?_) (fun ht H locs ls Z hl => ?_) (fun ht H locs ls Z hl => ?_)
          · replace hT := mx_t hT ht
            refine lv_iconst (v := (1 : Int32)) hx hb dL_law_400 (by decide) ?_
            cases hT
            exact kk _ _ _ _ Z (Or.inr rfl) dL_law_401
          · replace hT := mx_f hT (by rw [ht]; decide)
            replace hT := mx_t hT ht
            refine lv_iconst (v := (0 : Int32)) hx hb dL_law_292 (by decide) ?_
            cases hT
            exact kk _ _ _ _ Z (Or.inl rfl) dL_law_293
          · replace hT := mx_f hT (by rw [ht]; decide)
            replace hT := mx_f hT (by rw [ht]; decide)
            replace hT := mx_t hT ht
            refine lv_iconst (v := (0 : Int32)) hx hb dL_law_334 (by decide) ?_
            cases hT
            exact kk _ _ _ _ Z (Or.inl rfl) dL_law_335
          · replace hT := mx_f hT (by rw [ht]; decide)
            replace hT := mx_f hT (by rw [ht]; decide)
            replace hT := mx_f hT (by rw [ht]; decide)
            replace hT := mx_t hT ht
            refine lv_iconst (v := (0 : Int32)) hx hb dL_law_366 (by decide) ?_
            cases hT
            exact kk _ _ _ _ Z (Or.inl rfl) dL_law_367
          · replace hT := mx_f hT (by rw [ht]; decide)
            replace hT := mx_f hT (by rw [ht]; decide)
            replace hT := mx_f hT (by rw [ht]; decide)
            replace hT := mx_f hT (by rw [ht]; decide)
            refine lv_iconst (v := (0 : Int32)) hx hb dL_law_392 (by decide) ?_
            cases hT
            exact kk _ _ _ _ Z (Or.inl rfl) dL_law_393
        · replace hT := mx_t hT h_50
          refine lv_iconst (v := (0 : Int32)) hx hb dL_law_156 (by decide) ?_
          cases hT
          refine W.widen (k := cF) (n := sF) (by omega) (by omega) ?_
          exact kk _ _ _ _ Z (Or.inl rfl) dL_law_157
