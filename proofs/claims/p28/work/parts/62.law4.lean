/-! PeatRailwayLaw.act -/
def xL_act_L632 (y4 : Nat) (n4 : Nat) (y6 : Nat) (n6 : Nat) (y7 : Int32) (y8 : Int32) : Nat → Int32 → mM → Option (mM)
  | 0, _, _ => none
  | n + 1, w9, G =>
    mCk (mIn ((1 : Int32)) n4) <|
    if (((10 : Int32)) * (G y4 (((1 : Int32)).toNatClampNeg))) ≤ w9 then
      some (G)
    else
      mCk (mIn (w9 + ((10 : Int32))) n6) <|
      mCk (mIn w9 n6) <|
      mNm (up2 G y6 w9.toNatClampNeg (G y6 ((w9 + ((10 : Int32))).toNatClampNeg))) fun G_26 =>
      mNm (w9 + (1 : Int32)) fun v_27 =>
      xL_act_L632 y4 n4 y6 n6 y7 y8 n v_27 G_26
def xL_act_L242 (y4 : Nat) (n4 : Nat) (y6 : Nat) (n6 : Nat) (y7 : Int32) (y8 : Int32) : Nat → Int32 → mM → Option (mM)
  | 0, _, _ => none
  | n + 1, w9, G =>
    if ((10 : Int32)) ≤ w9 then
      some (G)
    else
      mCk (mIn ((1 : Int32)) n4) <|
      if w9 = 0 then
        mCk (mIn ((((10 : Int32)) * (G y4 (((1 : Int32)).toNatClampNeg))) + w9) n6) <|
        mNm (up2 G y6 (((((10 : Int32)) * (G y4 (((1 : Int32)).toNatClampNeg))) + w9).toNatClampNeg) y7) fun G_97 =>
        mNm (w9 + (1 : Int32)) fun v_98 =>
        xL_act_L242 y4 n4 y6 n6 y7 y8 n v_98 G_97
      else
        if w9 = ((1 : Int32)) then
          mCk (mIn ((((10 : Int32)) * (G y4 (((1 : Int32)).toNatClampNeg))) + w9) n6) <|
          mNm (up2 G y6 (((((10 : Int32)) * (G y4 (((1 : Int32)).toNatClampNeg))) + w9).toNatClampNeg) y8) fun G_94 =>
          mNm (w9 + (1 : Int32)) fun v_95 =>
          xL_act_L242 y4 n4 y6 n6 y7 y8 n v_95 G_94
        else
          mCk (mIn ((((10 : Int32)) * (G y4 (((1 : Int32)).toNatClampNeg))) + w9) n6) <|
          mNm (up2 G y6 (((((10 : Int32)) * (G y4 (((1 : Int32)).toNatClampNeg))) + w9).toNatClampNeg) ((0 : Int32))) fun G_91 =>
          mNm (w9 + (1 : Int32)) fun v_92 =>
          xL_act_L242 y4 n4 y6 n6 y7 y8 n v_92 G_91
def xL_act_L40 (y4 : Nat) (n4 : Nat) (y5 : Nat) (n5 : Nat) (y6 : Nat) (n6 : Nat) (y7 : Int32) (y8 : Int32) : Nat → Int32 → mM → Option (mM)
  | 0, _, _ => none
  | n + 1, w9, G =>
    if y7 ≤ w9 then
      some (G)
    else
      (xL_tick y4 n4 y5 n5 y6 n6 G).bind fun q_147 =>
      mNm (w9 + (1 : Int32)) fun v_148 =>
      xL_act_L40 y4 n4 y5 n5 y6 n6 y7 y8 n v_148 q_147
def xL_act (x1 : Int32) (x2 : Int32) (x3 : Int32) (a4 : Nat) (n4 : Nat) (a5 : Nat) (n5 : Nat) (a6 : Nat) (n6 : Nat) (G : mM) : Option (Int32 × mM) :=
  if ((7 : Int32)) ≤ x1 then
    if ((10 : Int32)) ≤ x1 then
      if ((13 : Int32)) ≤ x1 then
        if ((15 : Int32)) ≤ x1 then
          if x1 = ((15 : Int32)) then
            (xL_at x3 ((3 : Int32)) G).bind fun q_45 =>
            if 0 < q_45 then
              some ((1 : Int32), G)
            else
              (xL_lay x2 (x3 >>> ((2 : Int32) &&& 31)) a4 n4 a5 n5 a6 n6 G).bind fun q_47 =>
              if q_47.1 = 0 then
                some ((0 : Int32), q_47.2)
              else
                some ((1 : Int32), q_47.2)
          else
            mCk (mIn ((1 : Int32)) n4) <|
            if (G a4 (((1 : Int32)).toNatClampNeg)) = 0 then
              (x5_dropTrain ((0 : Int32)) G).bind fun q_39 =>
              if q_39.1 = ((-2 : Int32)) then
                (x5_setLoad ((0 : Int32)) ((1 : Int32)) q_39.2).bind fun q_41 =>
                if q_41.1 = ((-2 : Int32)) then
                  (x5_why ((0 : Int32)) q_41.2).bind fun q_43 =>
                  if q_43 = ((-2 : Int32)) then
                    some ((1 : Int32), q_41.2)
                  else
                    some ((0 : Int32), q_41.2)
                else
                  some ((0 : Int32), q_41.2)
              else
                some ((0 : Int32), q_39.2)
            else
              mCk (mIn ((1 : Int32)) n4) <|
              (xL_at x2 (G a4 (((1 : Int32)).toNatClampNeg)) G).bind fun q_9 =>
              if x1 = ((16 : Int32)) then
                mCk (mIn ((((10 : Int32)) * q_9) + ((1 : Int32))) n6) <|
                mNm (G a6 (((((10 : Int32)) * q_9) + ((1 : Int32))).toNatClampNeg)) fun v_32 =>
                (xL_at x3 ((20 : Int32)) G).bind fun q_33 =>
                mCk (mIn ((((10 : Int32)) * q_9) + ((1 : Int32))) n6) <|
                mNm (up2 G a6 (((((10 : Int32)) * q_9) + ((1 : Int32))).toNatClampNeg) (((1 : Int32)) + q_33)) fun G_35 =>
                mCk (mIn ((((10 : Int32)) * q_9) + ((1 : Int32))) n6) <|
                (x5_setLoad q_9 (G_35 a6 (((((10 : Int32)) * q_9) + ((1 : Int32))).toNatClampNeg)) G_35).bind fun q_37 =>
                if q_37.1 = v_32 then
                  some ((1 : Int32), q_37.2)
                else
                  some ((0 : Int32), q_37.2)
              else
                (xL_at x3 ((2 : Int32)) G).bind fun q_11 =>
                if q_11 = 0 then
                  some ((1 : Int32), G)
                else
                  mCk (mIn ((((10 : Int32)) * q_9) + ((2 : Int32))) n6) <|
                  mNm (G a6 (((((10 : Int32)) * q_9) + ((2 : Int32))).toNatClampNeg)) fun v_14 =>
                  mCk (mIn ((8 : Int32)) n4) <|
                  mCk (mIn ((8 : Int32)) n4) <|
                  mNm (up2 G a4 (((8 : Int32)).toNatClampNeg) ((G a4 (((8 : Int32)).toNatClampNeg)) + v_14)) fun G_17 =>
                  mCk (mIn ((1 : Int32)) n4) <|
                  mCk (mIn ((1 : Int32)) n4) <|
                  mNm (up2 G_17 a4 (((1 : Int32)).toNatClampNeg) ((G_17 a4 (((1 : Int32)).toNatClampNeg)) - ((1 : Int32)))) fun G_20 =>
                  mNm (((10 : Int32)) * q_9) fun v_21 =>
                  (xL_act_L632 a4 n4 a6 n6 q_9 v_14 mFu v_21 G_20).bind fun q_28 =>
                  (x5_dropTrain q_9 q_28).bind fun q_29 =>
                  if q_29.1 = v_14 then
                    some ((1 : Int32), q_29.2)
                  else
                    some ((0 : Int32), q_29.2)
        else
          (xL_at x2 ((3 : Int32)) G).bind fun q_49 =>
          mCk (mIn (((2 : Int32)) + q_49) n4) <|
          mNm (G a4 ((((2 : Int32)) + q_49).toNatClampNeg)) fun v_51 =>
          if q_49 = 0 then
            (xL_at (x3 >>> ((8 : Int32) &&& 31)) ((2 : Int32)) G).bind fun q_66 =>
            if q_66 = 0 then
              (xL_at x3 ((891 : Int32)) G).bind fun q_74 =>
              mCk (mIn (((2 : Int32)) + q_49) n4) <|
              mNm (up2 G a4 ((((2 : Int32)) + q_49).toNatClampNeg) (((10 : Int32)) + q_74)) fun G_76 =>
              mCk (mIn (((2 : Int32)) + q_49) n4) <|
              (x5_set q_49 (G_76 a4 ((((2 : Int32)) + q_49).toNatClampNeg)) G_76).bind fun q_78 =>
              if q_78.1 = v_51 then
                some ((1 : Int32), q_78.2)
              else
                some ((0 : Int32), q_78.2)
            else
              (xL_at x3 ((200 : Int32)) G).bind fun q_68 =>
              mCk (mIn (((2 : Int32)) + q_49) n4) <|
              mNm (up2 G a4 ((((2 : Int32)) + q_49).toNatClampNeg) (((10 : Int32)) + q_68)) fun G_70 =>
              mCk (mIn (((2 : Int32)) + q_49) n4) <|
              (x5_set q_49 (G_70 a4 ((((2 : Int32)) + q_49).toNatClampNeg)) G_70).bind fun q_72 =>
              if q_72.1 = v_51 then
                some ((1 : Int32), q_72.2)
              else
                some ((0 : Int32), q_72.2)
          else
            if q_49 = ((1 : Int32)) then
              (xL_at x3 ((50 : Int32)) G).bind fun q_60 =>
              mCk (mIn (((2 : Int32)) + q_49) n4) <|
              mNm (up2 G a4 ((((2 : Int32)) + q_49).toNatClampNeg) (((1 : Int32)) + q_60)) fun G_62 =>
              mCk (mIn (((2 : Int32)) + q_49) n4) <|
              (x5_set q_49 (G_62 a4 ((((2 : Int32)) + q_49).toNatClampNeg)) G_62).bind fun q_64 =>
              if q_64.1 = v_51 then
                some ((1 : Int32), q_64.2)
              else
                some ((0 : Int32), q_64.2)
            else
              (xL_at x3 ((3 : Int32)) G).bind fun q_54 =>
              mCk (mIn (((2 : Int32)) + q_49) n4) <|
              mNm (up2 G a4 ((((2 : Int32)) + q_49).toNatClampNeg) q_54) fun G_56 =>
              mCk (mIn (((2 : Int32)) + q_49) n4) <|
              (x5_set q_49 (G_56 a4 ((((2 : Int32)) + q_49).toNatClampNeg)) G_56).bind fun q_58 =>
              if q_58.1 = v_51 then
                some ((1 : Int32), q_58.2)
              else
                some ((0 : Int32), q_58.2)
      else
        (xL_at x2 ((6 : Int32)) G).bind fun q_80 =>
        mNm (((1 : Int32)) + q_80) fun v_81 =>
        (xL_at x3 ((20 : Int32)) G).bind fun q_82 =>
        mNm (((1 : Int32)) + q_82) fun v_83 =>
        mCk (mIn ((1 : Int32)) n4) <|
        if (G a4 (((1 : Int32)).toNatClampNeg)) = ((4 : Int32)) then
          (x5_addTrain v_81 v_83 G).bind fun q_106 =>
          if q_106.1 = ((-4 : Int32)) then
            some ((1 : Int32), q_106.2)
          else
            some ((0 : Int32), q_106.2)
        else
          (xL_act_L242 a4 n4 a6 n6 v_81 v_83 mFu ((0 : Int32)) G).bind fun q_99 =>
          mCk (mIn ((1 : Int32)) n4) <|
          mCk (mIn ((1 : Int32)) n4) <|
          mNm (up2 q_99 a4 (((1 : Int32)).toNatClampNeg) ((q_99 a4 (((1 : Int32)).toNatClampNeg)) + ((1 : Int32)))) fun G_102 =>
          (x5_addTrain v_81 v_83 G_102).bind fun q_103 =>
          mCk (mIn ((1 : Int32)) n4) <|
          if q_103.1 = ((q_103.2 a4 (((1 : Int32)).toNatClampNeg)) - ((1 : Int32))) then
            some ((1 : Int32), q_103.2)
          else
            some ((0 : Int32), q_103.2)
    else
      (xL_at x3 ((3 : Int32)) G).bind fun q_108 =>
      if q_108 = 0 then
        (xL_at x2 ((1000 : Int32)) G).bind fun q_125 =>
        mNm (((1 : Int32)) + q_125) fun v_126 =>
        mCk (mIn ((6 : Int32)) n4) <|
        if ((G a4 (((6 : Int32)).toNatClampNeg)) + v_126) ≤ ((5000 : Int32)) then
          mCk (mIn ((5 : Int32)) n4) <|
          mCk (mIn ((5 : Int32)) n4) <|
          mNm (up2 G a4 (((5 : Int32)).toNatClampNeg) ((G a4 (((5 : Int32)).toNatClampNeg)) + v_126)) fun G_131 =>
          mCk (mIn ((6 : Int32)) n4) <|
          mCk (mIn ((6 : Int32)) n4) <|
          mNm (up2 G_131 a4 (((6 : Int32)).toNatClampNeg) ((G_131 a4 (((6 : Int32)).toNatClampNeg)) + v_126)) fun G_134 =>
          (x5_dig v_126 G_134).bind fun q_135 =>
          mCk (mIn ((6 : Int32)) n4) <|
          if q_135.1 = (q_135.2 a4 (((6 : Int32)).toNatClampNeg)) then
            some ((1 : Int32), q_135.2)
          else
            some ((0 : Int32), q_135.2)
        else
          (x5_dig v_126 G).bind fun q_138 =>
          if q_138.1 = ((-4 : Int32)) then
            some ((1 : Int32), q_138.2)
          else
            some ((0 : Int32), q_138.2)
      else
        (xL_at x2 ((150 : Int32)) G).bind fun q_110 =>
        mNm (((1 : Int32)) + q_110) fun v_111 =>
        mCk (mIn ((6 : Int32)) n4) <|
        if ((G a4 (((6 : Int32)).toNatClampNeg)) + v_111) ≤ ((5000 : Int32)) then
          mCk (mIn ((5 : Int32)) n4) <|
          mCk (mIn ((5 : Int32)) n4) <|
          mNm (up2 G a4 (((5 : Int32)).toNatClampNeg) ((G a4 (((5 : Int32)).toNatClampNeg)) + v_111)) fun G_116 =>
          mCk (mIn ((6 : Int32)) n4) <|
          mCk (mIn ((6 : Int32)) n4) <|
          mNm (up2 G_116 a4 (((6 : Int32)).toNatClampNeg) ((G_116 a4 (((6 : Int32)).toNatClampNeg)) + v_111)) fun G_119 =>
          (x5_dig v_111 G_119).bind fun q_120 =>
          mCk (mIn ((6 : Int32)) n4) <|
          if q_120.1 = (q_120.2 a4 (((6 : Int32)).toNatClampNeg)) then
            some ((1 : Int32), q_120.2)
          else
            some ((0 : Int32), q_120.2)
        else
          (x5_dig v_111 G).bind fun q_123 =>
          if q_123.1 = ((-4 : Int32)) then
            some ((1 : Int32), q_123.2)
          else
            some ((0 : Int32), q_123.2)
  else
    (xL_at x3 ((4 : Int32)) G).bind fun q_140 =>
    if q_140 = 0 then
      (xL_at x2 ((200 : Int32)) G).bind fun q_153 =>
      mNm (((1 : Int32)) + q_153) fun v_154 =>
      mCk (mIn ((7 : Int32)) n4) <|
      mNm (G a4 (((7 : Int32)).toNatClampNeg)) fun v_156 =>
      (xL_act_L40 a4 n4 a5 n5 a6 n6 v_154 v_156 mFu ((0 : Int32)) G).bind fun q_157 =>
      (x5_run v_154 q_157).bind fun q_158 =>
      mCk (mIn ((7 : Int32)) n4) <|
      if q_158.1 = ((q_158.2 a4 (((7 : Int32)).toNatClampNeg)) - v_156) then
        some ((1 : Int32), q_158.2)
      else
        some ((0 : Int32), q_158.2)
    else
      (xL_at x2 ((30 : Int32)) G).bind fun q_142 =>
      mNm (((1 : Int32)) + q_142) fun v_143 =>
      mCk (mIn ((7 : Int32)) n4) <|
      mNm (G a4 (((7 : Int32)).toNatClampNeg)) fun v_145 =>
      (xL_act_L40 a4 n4 a5 n5 a6 n6 v_143 v_145 mFu ((0 : Int32)) G).bind fun q_149 =>
      (x5_run v_143 q_149).bind fun q_150 =>
      mCk (mIn ((7 : Int32)) n4) <|
      if q_150.1 = ((q_150.2 a4 (((7 : Int32)).toNatClampNeg)) - v_145) then
        some ((1 : Int32), q_150.2)
      else
        some ((0 : Int32), q_150.2)
theorem hdL_act : yL_act.cls ≠ "java/lang/invoke/MethodHandle" ∧ yL_act.cls ≠ "java/lang/invoke/VarHandle" ∧ (parseMethodDescriptor yL_act.desc).map (fun d => d.parameters.length) = some 7 := by decide +kernel
set_option maxHeartbeats 4000000 in
set_option maxRecDepth 100000 in
theorem kL_act_632 {p : Program} {l : Launch} {e : Env} {R : Room} {s : State} {m : MethodId} {args : Array Value} {below : List Frame} {meth : Method} {cd : Code} {Q : State → Prop} {E : mE} (X : mX p s m args cd cL_act 10 RL E) (hR : 7 ≤ R.frames ∧ 159 ≤ R.locals) (hJ : mJ E) {y4 : Nat} {n4 : Nat} {y6 : Nat} {n6 : Nat} (hy0 : mAl E 240) (hy4 : mAi E y4 1 n4) (hy6 : mAi E y6 1 n6) (y7 : Int32) (y8 : Int32) : ∀ (n : Nat) (w9 : Int32) (G : mM) (H : Heap) (locs : List Loc) (ls : Array Slot) (r : mM), xL_act_L632 y4 n4 y6 n6 y7 y8 n w9 G = some r → mZ E s.heap H locs G → lv_has ls 10 [(0, .ref (mad E (240))), (4, .ref (mad E (y4))), (6, .ref (mad E (y6))), (7, .int (y7)), (8, .int (y8)), (9, .int (w9))] → (∀ (H : Heap) (locs : List Loc) (ls : Array Slot), mZ E s.heap H locs r → lv_has ls 10 [(0, .ref (mad E (240))), (4, .ref (mad E (y4))), (6, .ref (mad E (y6))), (7, .int (y7)), (8, .int (y8))] → W p l e R s m args below meth cd H locs 0 0 Q (F0 m 663 ls [])) → W p l e R s m args below meth cd H locs 0 0 Q (F0 m 632 ls []) := by
  have hx := X.1
  have hb := X.2.1
  have hown := X.2.2.2.1
  have hts := X.2.2.2.2.1
  intro n
  induction n with
  | zero =>
    intro w9 G H locs ls r hT
    rw [xL_act_L632] at hT
    cases hT
  | succ n ih =>
    intro w9 G H locs ls r hT Z hl k0
    rw [xL_act_L632] at hT
    refine lv_iload hx hb dL_act_632 (lv_at hl 5 rfl) ?_
    refine lv_bipush (v := (10 : Int32)) hx hb dL_act_634 (by decide) ?_
    refine lv_aload hx hb dL_act_636 (lv_at hl 1 rfl) ?_
    refine lv_iconst (v := (1 : Int32)) hx hb dL_act_638 (by decide) ?_
    obtain ⟨h_22, hT⟩ := mx_chk hT
    refine mx_iald X Z hy4 h_22 dL_act_639 ?_
    refine mx_tops (s2 := [.int (G y4 (((1 : Int32)).toNatClampNeg)), .int ((10 : Int32)), .int (w9)]) rfl ?_
    refine lv_imul hx hb dL_act_640 ?_
    refine lv_icmp_ge (tgt := 663) hx hb dL_act_641 (by decide) (fun h_23 => ?_) (fun h_23 => ?_)
    · replace hT := mx_t hT h_23
      cases hT
      exact k0 _ _ _ Z (lv_sub hl [0, 1, 2, 3, 4] rfl)
    · replace hT := mx_f hT h_23
      refine lv_aload hx hb dL_act_644 (lv_at hl 2 rfl) ?_
      refine lv_iload hx hb dL_act_646 (lv_at hl 5 rfl) ?_
      refine lv_aload hx hb dL_act_648 (lv_at hl 2 rfl) ?_
      refine lv_iload hx hb dL_act_650 (lv_at hl 5 rfl) ?_
      refine lv_bipush (v := (10 : Int32)) hx hb dL_act_652 (by decide) ?_
      refine lv_iadd hx hb dL_act_654 ?_
      obtain ⟨h_24, hT⟩ := mx_chk hT
      refine mx_iald X Z hy6 h_24 dL_act_655 ?_
      obtain ⟨h_25, hT⟩ := mx_chk hT
      obtain ⟨G_26, e_G_26, hT⟩ := mx_nm hT
      refine mx_iast X Z hy6 h_25 dL_act_656 (fun H locs Z => ?_)
      rw [e_G_26] at Z
      obtain ⟨v_27, e_v_27, hT⟩ := mx_nm hT
      refine lv_iinc (v := v_27) (lv' := [(9, .int (v_27)), (0, .ref (mad E (240))), (4, .ref (mad E (y4))), (6, .ref (mad E (y6))), (7, .int (y7)), (8, .int (y8))]) hx hb dL_act_657 hl (k := 5) rfl (by rw [← e_v_27]; rfl) (by decide) rfl (fun ls hl => ?_)
      refine lv_goto (tgt := 632) hx hb dL_act_660 (by decide) ?_
      exact ih _ _ _ _ _ _ hT Z (lv_sub hl [1, 2, 3, 4, 5, 0] rfl) k0
set_option maxHeartbeats 4000000 in
set_option maxRecDepth 100000 in
theorem kL_act_242 {p : Program} {l : Launch} {e : Env} {R : Room} {s : State} {m : MethodId} {args : Array Value} {below : List Frame} {meth : Method} {cd : Code} {Q : State → Prop} {E : mE} (X : mX p s m args cd cL_act 10 RL E) (hR : 7 ≤ R.frames ∧ 159 ≤ R.locals) (hJ : mJ E) {y4 : Nat} {n4 : Nat} {y6 : Nat} {n6 : Nat} (hy0 : mAl E 240) (hy4 : mAi E y4 1 n4) (hy6 : mAi E y6 1 n6) (y7 : Int32) (y8 : Int32) : ∀ (n : Nat) (w9 : Int32) (G : mM) (H : Heap) (locs : List Loc) (ls : Array Slot) (r : mM), xL_act_L242 y4 n4 y6 n6 y7 y8 n w9 G = some r → mZ E s.heap H locs G → lv_has ls 10 [(0, .ref (mad E (240))), (4, .ref (mad E (y4))), (6, .ref (mad E (y6))), (7, .int (y7)), (8, .int (y8)), (9, .int (w9))] → (∀ (H : Heap) (locs : List Loc) (ls : Array Slot), mZ E s.heap H locs r → lv_has ls 10 [(0, .ref (mad E (240))), (4, .ref (mad E (y4))), (6, .ref (mad E (y6))), (7, .int (y7)), (8, .int (y8))] → W p l e R s m args below meth cd H locs 0 0 Q (F0 m 290 ls [])) → W p l e R s m args below meth cd H locs 0 0 Q (F0 m 242 ls []) := by
  have hx := X.1
  have hb := X.2.1
  have hown := X.2.2.2.1
  have hts := X.2.2.2.2.1
  intro n
  induction n with
  | zero =>
    intro w9 G H locs ls r hT
    rw [xL_act_L242] at hT
    cases hT
  | succ n ih =>
    intro w9 G H locs ls r hT Z hl k0
    rw [xL_act_L242] at hT
    refine lv_iload hx hb dL_act_242 (lv_at hl 5 rfl) ?_
    refine lv_bipush (v := (10 : Int32)) hx hb dL_act_244 (by decide) ?_
    refine lv_icmp_ge (tgt := 290) hx hb dL_act_246 (by decide) (fun h_86 => ?_) (fun h_86 => ?_)
    · replace hT := mx_t hT h_86
      cases hT
      exact k0 _ _ _ Z (lv_sub hl [0, 1, 2, 3, 4] rfl)
    · replace hT := mx_f hT h_86
      refine lv_aload hx hb dL_act_249 (lv_at hl 2 rfl) ?_
      refine lv_bipush (v := (10 : Int32)) hx hb dL_act_251 (by decide) ?_
      refine lv_aload hx hb dL_act_253 (lv_at hl 1 rfl) ?_
      refine lv_iconst (v := (1 : Int32)) hx hb dL_act_255 (by decide) ?_
      obtain ⟨h_87, hT⟩ := mx_chk hT
      refine mx_iald X Z hy4 h_87 dL_act_256 ?_
      refine mx_tops (s2 := [.int (G y4 (((1 : Int32)).toNatClampNeg)), .int ((10 : Int32)), .ref (mad E (y6))]) rfl ?_
      refine lv_imul hx hb dL_act_257 ?_
      refine lv_iload hx hb dL_act_258 (lv_at hl 5 rfl) ?_
      refine lv_iadd hx hb dL_act_260 ?_
      refine lv_iload hx hb dL_act_261 (lv_at hl 5 rfl) ?_
      refine lv_if_ne (tgt := 271) hx hb dL_act_263 (by decide) (fun h_88 => ?_) (fun h_88 => ?_)
      · replace hT := mx_f hT h_88
        refine lv_iload hx hb dL_act_271 (lv_at hl 5 rfl) ?_
        refine lv_iconst (v := (1 : Int32)) hx hb dL_act_273 (by decide) ?_
        refine lv_icmp_ne (tgt := 282) hx hb dL_act_274 (by decide) (fun h_89 => ?_) (fun h_89 => ?_)
        · replace hT := mx_f hT h_89
          refine lv_iconst (v := (0 : Int32)) hx hb dL_act_282 (by decide) ?_
          obtain ⟨h_90, hT⟩ := mx_chk hT
          obtain ⟨G_91, e_G_91, hT⟩ := mx_nm hT
          refine mx_iast X Z hy6 h_90 dL_act_283 (fun H locs Z => ?_)
          rw [e_G_91] at Z
          obtain ⟨v_92, e_v_92, hT⟩ := mx_nm hT
          refine lv_iinc (v := v_92) (lv' := [(9, .int (v_92)), (0, .ref (mad E (240))), (4, .ref (mad E (y4))), (6, .ref (mad E (y6))), (7, .int (y7)), (8, .int (y8))]) hx hb dL_act_284 hl (k := 5) rfl (by rw [← e_v_92]; rfl) (by decide) rfl (fun ls hl => ?_)
          refine lv_goto (tgt := 242) hx hb dL_act_287 (by decide) ?_
          exact ih _ _ _ _ _ _ hT Z (lv_sub hl [1, 2, 3, 4, 5, 0] rfl) k0
        · replace hT := mx_t hT h_89
          refine lv_iload hx hb dL_act_277 (lv_at hl 4 rfl) ?_
          refine lv_goto (tgt := 283) hx hb dL_act_279 (by decide) ?_
          obtain ⟨h_93, hT⟩ := mx_chk hT
          obtain ⟨G_94, e_G_94, hT⟩ := mx_nm hT
          refine mx_iast X Z hy6 h_93 dL_act_283 (fun H locs Z => ?_)
          rw [e_G_94] at Z
          obtain ⟨v_95, e_v_95, hT⟩ := mx_nm hT
          refine lv_iinc (v := v_95) (lv' := [(9, .int (v_95)), (0, .ref (mad E (240))), (4, .ref (mad E (y4))), (6, .ref (mad E (y6))), (7, .int (y7)), (8, .int (y8))]) hx hb dL_act_284 hl (k := 5) rfl (by rw [← e_v_95]; rfl) (by decide) rfl (fun ls hl => ?_)
          refine lv_goto (tgt := 242) hx hb dL_act_287 (by decide) ?_
          exact ih _ _ _ _ _ _ hT Z (lv_sub hl [1, 2, 3, 4, 5, 0] rfl) k0
      · replace hT := mx_t hT h_88
        refine lv_iload hx hb dL_act_266 (lv_at hl 3 rfl) ?_
        refine lv_goto (tgt := 283) hx hb dL_act_268 (by decide) ?_
        obtain ⟨h_96, hT⟩ := mx_chk hT
        obtain ⟨G_97, e_G_97, hT⟩ := mx_nm hT
        refine mx_iast X Z hy6 h_96 dL_act_283 (fun H locs Z => ?_)
        rw [e_G_97] at Z
        obtain ⟨v_98, e_v_98, hT⟩ := mx_nm hT
        refine lv_iinc (v := v_98) (lv' := [(9, .int (v_98)), (0, .ref (mad E (240))), (4, .ref (mad E (y4))), (6, .ref (mad E (y6))), (7, .int (y7)), (8, .int (y8))]) hx hb dL_act_284 hl (k := 5) rfl (by rw [← e_v_98]; rfl) (by decide) rfl (fun ls hl => ?_)
        refine lv_goto (tgt := 242) hx hb dL_act_287 (by decide) ?_
        exact ih _ _ _ _ _ _ hT Z (lv_sub hl [1, 2, 3, 4, 5, 0] rfl) k0
set_option maxHeartbeats 4000000 in
set_option maxRecDepth 100000 in
theorem kL_act_40 {p : Program} {l : Launch} {e : Env} {R : Room} {s : State} {m : MethodId} {args : Array Value} {below : List Frame} {meth : Method} {cd : Code} {Q : State → Prop} {E : mE} (X : mX p s m args cd cL_act 10 RL E) (hR : 7 ≤ R.frames ∧ 159 ≤ R.locals) (hJ : mJ E) {y4 : Nat} {n4 : Nat} {y5 : Nat} {n5 : Nat} {y6 : Nat} {n6 : Nat} (hy0 : mAl E 240) (hy4 : mAi E y4 1 n4) (hy5 : mAi E y5 1 n5) (hy6 : mAi E y6 1 n6) (y7 : Int32) (y8 : Int32) : ∀ (n : Nat) (w9 : Int32) (G : mM) (H : Heap) (locs : List Loc) (ls : Array Slot) (r : mM), xL_act_L40 y4 n4 y5 n5 y6 n6 y7 y8 n w9 G = some r → mZ E s.heap H locs G → lv_has ls 10 [(0, .ref (mad E (240))), (4, .ref (mad E (y4))), (5, .ref (mad E (y5))), (6, .ref (mad E (y6))), (7, .int (y7)), (8, .int (y8)), (9, .int (w9))] → (∀ (H : Heap) (locs : List Loc) (ls : Array Slot), mZ E s.heap H locs r → lv_has ls 10 [(0, .ref (mad E (240))), (4, .ref (mad E (y4))), (5, .ref (mad E (y5))), (6, .ref (mad E (y6))), (7, .int (y7)), (8, .int (y8))] → W p l e R s m args below meth cd H locs 0 0 Q (F0 m 62 ls [])) → W p l e R s m args below meth cd H locs 0 0 Q (F0 m 40 ls []) := by
  have hx := X.1
  have hb := X.2.1
  have hown := X.2.2.2.1
  have hts := X.2.2.2.2.1
  intro n
  induction n with
  | zero =>
    intro w9 G H locs ls r hT
    rw [xL_act_L40] at hT
    cases hT
  | succ n ih =>
    intro w9 G H locs ls r hT Z hl k0
    rw [xL_act_L40] at hT
    refine lv_iload hx hb dL_act_40 (lv_at hl 6 rfl) ?_
    refine lv_iload hx hb dL_act_42 (lv_at hl 4 rfl) ?_
    refine lv_icmp_ge (tgt := 62) hx hb dL_act_44 (by decide) (fun h_146 => ?_) (fun h_146 => ?_)
    · replace hT := mx_t hT h_146
      cases hT
      exact k0 _ _ _ Z (lv_sub hl [0, 1, 2, 3, 4, 5] rfl)
    · replace hT := mx_f hT h_146
      refine lv_aload hx hb dL_act_47 (lv_at hl 1 rfl) ?_
      refine lv_aload hx hb dL_act_49 (lv_at hl 2 rfl) ?_
      refine lv_aload hx hb dL_act_51 (lv_at hl 3 rfl) ?_
      obtain ⟨q_147, h_q_147, hT⟩ := mx_bind hT
      refine mx_callS (As := [.ref (mad E (y4)), .ref (mad E (y5)), .ref (mad E (y6))]) (rest := []) (st1 := []) X Z hl.1 (mL_tick l E hJ hy4 hy5 hy6 _ _ h_q_147) wd_17_9 wd_17_10 wd_10_7 wd_17_11 hdL_tick ⟨Nat.le_trans (by decide) hR.1, Nat.le_trans (by decide) hR.2⟩ ⟨Nat.zero_le _, Nat.zero_le _⟩ (Nat.le_of_ble_eq_true rfl) rfl rfl dL_act_53 (fun H locs Z => ?_)
      obtain ⟨v_148, e_v_148, hT⟩ := mx_nm hT
      refine lv_iinc (v := v_148) (lv' := [(9, .int (v_148)), (0, .ref (mad E (240))), (4, .ref (mad E (y4))), (5, .ref (mad E (y5))), (6, .ref (mad E (y6))), (7, .int (y7)), (8, .int (y8))]) hx hb dL_act_56 hl (k := 6) rfl (by rw [← e_v_148]; rfl) (by decide) rfl (fun ls hl => ?_)
      refine lv_goto (tgt := 40) hx hb dL_act_59 (by decide) ?_
      exact ih _ _ _ _ _ _ hT Z (lv_sub hl [1, 2, 3, 4, 5, 6, 0] rfl) k0
set_option maxHeartbeats 4000000 in
set_option maxRecDepth 100000 in
theorem mL_act (l : Launch) (E : mE) (hJ : mJ E) {a4 : Nat} {n4 : Nat} {a5 : Nat} {n5 : Nat} {a6 : Nat} {n6 : Nat} (hd0 : mAl E 240) (ha4 : mAi E a4 1 n4) (ha5 : mAi E a5 1 n5) (ha6 : mAi E a6 1 n6) (x1 : Int32) (x2 : Int32) (x3 : Int32) (G : mM) (q : (Int32 × mM)) (hT : xL_act x1 x2 x3 a4 n4 a5 n5 a6 n6 G = some q) : mMet l E yL_act cL_act 10 (some .boolean) 7 159 [.ref (mad E (240)), .int (x1), .int (x2), .int (x3), .ref (mad E (a4)), .ref (mad E (a5)), .ref (mad E (a6))] G (some (.int q.1)) q.2 := by
  refine Met.ofW (cc := cL_act) (maxL := 10) (ret := (some .boolean)) (by decide) rfl ?_
  intro p e s m args below meth cd s₁ B hml hv
  obtain ⟨rfl, hP, hK, hS⟩ := hv
  have X := mx_entry (own := RL) B hml hK hJ hS rfl
  have hx := X.1
  have hb := X.2.1
  have hown := X.2.2.2.1
  have hts := X.2.2.2.2.1
  have hr := B.returns
  have hlocks := B.notSynchronized
  have hR : 7 ≤ (headSpec (mWs yL_act cL_act 10 (some .boolean)) ({ frames := 7, cells := 0, slots := 0, locals := 159 })).room.frames ∧ 159 ≤ (headSpec (mWs yL_act cL_act 10 (some .boolean)) ({ frames := 7, cells := 0, slots := 0, locals := 159 })).room.locals := ⟨Nat.le_refl _, Nat.le_refl _⟩
  have Z : mZ E s.heap s.heap [] G := ⟨hP, va_S.rf⟩
  have hl := lv_entry ([.ref (mad E (240)), .int (x1), .int (x2), .int (x3), .ref (mad E (a4)), .ref (mad E (a5)), .ref (mad E (a6))]) (n := 10) (Nat.le_of_ble_eq_true rfl)
  rw [lg_entry_eq]
  generalize (lg_sl ([.ref (mad E (240)), .int (x1), .int (x2), .int (x3), .ref (mad E (a4)), .ref (mad E (a5)), .ref (mad E (a6))]) ++ List.replicate (10 - (lg_sl ([.ref (mad E (240)), .int (x1), .int (x2), .int (x3), .ref (mad E (a4)), .ref (mad E (a5)), .ref (mad E (a6))])).length) Slot.unset).toArray = ls at hl ⊢
  have hl : lv_has ls 10 [(0, .ref (mad E (240))), (1, .int (x1)), (2, .int (x2)), (3, .int (x3)), (4, .ref (mad E (a4))), (5, .ref (mad E (a5))), (6, .ref (mad E (a6)))] := hl
  unfold xL_act at hT
  refine lv_iload_n hx hb dL_act_0 rfl (lv_at hl 1 rfl) ?_
  refine lv_bipush (v := (7 : Int32)) hx hb dL_act_1 (by decide) ?_
  refine lv_icmp_ge (tgt := 85) hx hb dL_act_3 (by decide) (fun h_1 => ?_) (fun h_1 => ?_)
  · replace hT := mx_t hT h_1
    refine lv_iload_n hx hb dL_act_85 rfl (lv_at hl 1 rfl) ?_
    refine lv_bipush (v := (10 : Int32)) hx hb dL_act_86 (by decide) ?_
    refine lv_icmp_ge (tgt := 186) hx hb dL_act_88 (by decide) (fun h_2 => ?_) (fun h_2 => ?_)
    · replace hT := mx_t hT h_2
      refine lv_iload_n hx hb dL_act_186 rfl (lv_at hl 1 rfl) ?_
      refine lv_bipush (v := (13 : Int32)) hx hb dL_act_187 (by decide) ?_
      refine lv_icmp_ge (tgt := 321) hx hb dL_act_189 (by decide) (fun h_3 => ?_) (fun h_3 => ?_)
      · replace hT := mx_t hT h_3
        refine lv_iload_n hx hb dL_act_321 rfl (lv_at hl 1 rfl) ?_
        refine lv_bipush (v := (15 : Int32)) hx hb dL_act_322 (by decide) ?_
        refine lv_icmp_ge (tgt := 431) hx hb dL_act_324 (by decide) (fun h_4 => ?_) (fun h_4 => ?_)
        · replace hT := mx_t hT h_4
          refine lv_iload_n hx hb dL_act_431 rfl (lv_at hl 1 rfl) ?_
          refine lv_bipush (v := (15 : Int32)) hx hb dL_act_432 (by decide) ?_
          refine lv_icmp_ne (tgt := 468) hx hb dL_act_434 (by decide) (fun h_5 => ?_) (fun h_5 => ?_)
          · replace hT := mx_f hT h_5
            refine lv_aload hx hb dL_act_468 (lv_at hl 4 rfl) ?_
            refine lv_iconst (v := (1 : Int32)) hx hb dL_act_470 (by decide) ?_
            obtain ⟨h_6, hT⟩ := mx_chk hT
            refine mx_iald X Z ha4 h_6 dL_act_471 ?_
            refine mx_tops (s2 := [.int (G a4 (((1 : Int32)).toNatClampNeg))]) rfl ?_
            refine lv_if_ne (tgt := 512) hx hb dL_act_472 (by decide) (fun h_7 => ?_) (fun h_7 => ?_)
            · replace hT := mx_f hT h_7
              refine lv_iload_n hx hb dL_act_512 rfl (lv_at hl 2 rfl) ?_
              refine lv_aload hx hb dL_act_513 (lv_at hl 4 rfl) ?_
              refine lv_iconst (v := (1 : Int32)) hx hb dL_act_515 (by decide) ?_
              obtain ⟨h_8, hT⟩ := mx_chk hT
              refine mx_iald X Z ha4 h_8 dL_act_516 ?_
              refine mx_tops (s2 := [.int (G a4 (((1 : Int32)).toNatClampNeg)), .int (x2)]) rfl ?_
              obtain ⟨q_9, h_q_9, hT⟩ := mx_bind hT
              refine mx_callS (As := [.int (x2), .int (G a4 (((1 : Int32)).toNatClampNeg))]) (rest := []) (st1 := [.int (q_9)]) X Z hl.1 (mL_at l E hJ _ _ _ _ h_q_9) wd_17_3 wd_17_4 wd_10_7 wd_17_5 hdL_at ⟨Nat.le_trans (by decide) hR.1, Nat.le_trans (by decide) hR.2⟩ ⟨Nat.zero_le _, Nat.zero_le _⟩ (Nat.le_of_ble_eq_true rfl) rfl rfl dL_act_517 (fun H locs Z => ?_)
              refine lv_istore (lv' := [(7, .int (q_9)), (0, .ref (mad E (240))), (1, .int (x1)), (2, .int (x2)), (3, .int (x3)), (4, .ref (mad E (a4))), (5, .ref (mad E (a5))), (6, .ref (mad E (a6)))]) hx hb dL_act_520 hl (by decide) rfl (fun ls hl => ?_)
              refine lv_iload_n hx hb dL_act_522 rfl (lv_at hl 2 rfl) ?_
              refine lv_bipush (v := (16 : Int32)) hx hb dL_act_523 (by decide) ?_
              refine lv_icmp_ne (tgt := 585) hx hb dL_act_525 (by decide) (fun h_10 => ?_) (fun h_10 => ?_)
              · replace hT := mx_f hT h_10
                refine lv_iload_n hx hb dL_act_585 rfl (lv_at hl 4 rfl) ?_
                refine lv_iconst (v := (2 : Int32)) hx hb dL_act_586 (by decide) ?_
                obtain ⟨q_11, h_q_11, hT⟩ := mx_bind hT
                refine mx_callS (As := [.int (x3), .int ((2 : Int32))]) (rest := []) (st1 := [.int (q_11)]) X Z hl.1 (mL_at l E hJ _ _ _ _ h_q_11) wd_17_3 wd_17_4 wd_10_7 wd_17_5 hdL_at ⟨Nat.le_trans (by decide) hR.1, Nat.le_trans (by decide) hR.2⟩ ⟨Nat.zero_le _, Nat.zero_le _⟩ (Nat.le_of_ble_eq_true rfl) rfl rfl dL_act_587 (fun H locs Z => ?_)
                refine lv_if_ne (tgt := 595) hx hb dL_act_590 (by decide) (fun h_12 => ?_) (fun h_12 => ?_)
                · replace hT := mx_f hT h_12
                  refine lv_aload hx hb dL_act_595 (lv_at hl 7 rfl) ?_
                  refine lv_bipush (v := (10 : Int32)) hx hb dL_act_597 (by decide) ?_
                  refine lv_iload hx hb dL_act_599 (lv_at hl 0 rfl) ?_
                  refine lv_imul hx hb dL_act_601 ?_
                  refine lv_iconst (v := (2 : Int32)) hx hb dL_act_602 (by decide) ?_
                  refine lv_iadd hx hb dL_act_603 ?_
                  obtain ⟨h_13, hT⟩ := mx_chk hT
                  refine mx_iald X Z ha6 h_13 dL_act_604 ?_
                  obtain ⟨v_14, e_v_14, hT⟩ := mx_nm hT
                  refine mx_tops (congrArg (fun z => (.int (z) :: [] : List Value)) e_v_14) ?_
                  refine lv_istore (lv' := [(8, .int (v_14)), (7, .int (q_9)), (0, .ref (mad E (240))), (1, .int (x1)), (2, .int (x2)), (3, .int (x3)), (4, .ref (mad E (a4))), (5, .ref (mad E (a5))), (6, .ref (mad E (a6)))]) hx hb dL_act_605 hl (by decide) rfl (fun ls hl => ?_)
                  refine lv_aload hx hb dL_act_607 (lv_at hl 6 rfl) ?_
                  refine lv_bipush (v := (8 : Int32)) hx hb dL_act_609 (by decide) ?_
                  refine lv_dup2_11 hx hb dL_act_611 rfl rfl ?_
                  obtain ⟨h_15, hT⟩ := mx_chk hT
                  refine mx_iald X Z ha4 h_15 dL_act_612 ?_
                  refine mx_tops (s2 := [.int (G a4 (((8 : Int32)).toNatClampNeg)), .int ((8 : Int32)), .ref (mad E (a4))]) rfl ?_
                  refine lv_iload hx hb dL_act_613 (lv_at hl 0 rfl) ?_
                  refine lv_iadd hx hb dL_act_615 ?_
                  obtain ⟨h_16, hT⟩ := mx_chk hT
                  obtain ⟨G_17, e_G_17, hT⟩ := mx_nm hT
                  refine mx_iast X Z ha4 h_16 dL_act_616 (fun H locs Z => ?_)
                  replace Z : mZ E s.heap H locs (up2 G a4 (((8 : Int32)).toNatClampNeg) ((G a4 (((8 : Int32)).toNatClampNeg)) + v_14)) := Z
                  rw [e_G_17] at Z
                  refine lv_aload hx hb dL_act_617 (lv_at hl 6 rfl) ?_
                  refine lv_iconst (v := (1 : Int32)) hx hb dL_act_619 (by decide) ?_
                  refine lv_dup2_11 hx hb dL_act_620 rfl rfl ?_
                  obtain ⟨h_18, hT⟩ := mx_chk hT
                  refine mx_iald X Z ha4 h_18 dL_act_621 ?_
                  refine mx_tops (s2 := [.int (G_17 a4 (((1 : Int32)).toNatClampNeg)), .int ((1 : Int32)), .ref (mad E (a4))]) rfl ?_
                  refine lv_iconst (v := (1 : Int32)) hx hb dL_act_622 (by decide) ?_
                  refine lv_isub hx hb dL_act_623 ?_
                  obtain ⟨h_19, hT⟩ := mx_chk hT
                  obtain ⟨G_20, e_G_20, hT⟩ := mx_nm hT
                  refine mx_iast X Z ha4 h_19 dL_act_624 (fun H locs Z => ?_)
                  replace Z : mZ E s.heap H locs (up2 G_17 a4 (((1 : Int32)).toNatClampNeg) ((G_17 a4 (((1 : Int32)).toNatClampNeg)) - ((1 : Int32)))) := Z
                  rw [e_G_20] at Z
                  refine lv_bipush (v := (10 : Int32)) hx hb dL_act_625 (by decide) ?_
                  refine lv_iload hx hb dL_act_627 (lv_at hl 1 rfl) ?_
                  refine lv_imul hx hb dL_act_629 ?_
                  obtain ⟨v_21, e_v_21, hT⟩ := mx_nm hT
                  refine mx_tops (congrArg (fun z => (.int (z) :: [] : List Value)) e_v_21) ?_
                  refine lv_istore (lv' := [(9, .int (v_21)), (8, .int (v_14)), (7, .int (q_9)), (0, .ref (mad E (240))), (1, .int (x1)), (2, .int (x2)), (3, .int (x3)), (4, .ref (mad E (a4))), (5, .ref (mad E (a5))), (6, .ref (mad E (a6)))]) hx hb dL_act_630 hl (by decide) rfl (fun ls hl => ?_)
                  obtain ⟨q_28, h_q_28, hT⟩ := mx_bind hT
                  refine kL_act_632 X hR hJ hd0 ha4 ha6 _ _ _ _ _ _ _ _ _ h_q_28 Z (lv_sub (l' := [(0, .ref (mad E (240))), (4, .ref (mad E (a4))), (6, .ref (mad E (a6))), (7, .int (q_9)), (8, .int (v_14)), (9, .int (v_21))]) hl [3, 7, 9, 2, 1, 0] rfl) (fun H locs ls Z hl => ?_)
                  · refine lv_aload_n hx hb dL_act_663 rfl (lv_at hl 0 rfl) ?_
                    refine lv_iload hx hb dL_act_664 (lv_at hl 3 rfl) ?_
                    obtain ⟨q_29, h_q_29, hT⟩ := mx_bind hT
                    refine mx_callV (As := [.int (q_9)]) (rest := []) (st1 := [.int (q_29.1)]) (C := RX5) (T := TX5) (N := 6) (ci := 5) X Z hl.1 (c5_dropTrain l E hJ hd0 _ _ _ h_q_29) wd_22_15 wd_22_16 wd_22_17 wd_1_2 wd_22_18 hd5_dropTrain ⟨Nat.le_trans (by decide) hR.1, Nat.le_trans (by decide) hR.2⟩ ⟨Nat.zero_le _, Nat.zero_le _⟩ hd0.i (hd0.c _) rfl (Nat.le_of_ble_eq_true rfl) rfl rfl dL_act_666 (fun H locs Z => ?_)
                    refine lv_iload hx hb dL_act_669 (lv_at hl 4 rfl) ?_
                    refine lv_icmp_ne (tgt := 678) hx hb dL_act_671 (by decide) (fun h_30 => ?_) (fun h_30 => ?_)
                    · replace hT := mx_f hT h_30
                      refine lv_iconst (v := (0 : Int32)) hx hb dL_act_678 (by decide) ?_
                      cases hT
                      exact W.zret (v := (0 : Int32)) hx hb hr rfl (fun t ht hW => mx_end Z t ht _) Z.2.2.2 dL_act_679
                    · replace hT := mx_t hT h_30
                      refine lv_iconst (v := (1 : Int32)) hx hb dL_act_674 (by decide) ?_
                      refine lv_goto (tgt := 679) hx hb dL_act_675 (by decide) ?_
                      cases hT
                      exact W.zret (v := (1 : Int32)) hx hb hr rfl (fun t ht hW => mx_end Z t ht _) Z.2.2.2 dL_act_679
                · replace hT := mx_t hT h_12
                  refine lv_iconst (v := (1 : Int32)) hx hb dL_act_593 (by decide) ?_
                  cases hT
                  exact W.zret (v := (1 : Int32)) hx hb hr rfl (fun t ht hW => mx_end Z t ht _) Z.2.2.2 dL_act_594
              · replace hT := mx_t hT h_10
                refine lv_aload hx hb dL_act_528 (lv_at hl 7 rfl) ?_
                refine lv_bipush (v := (10 : Int32)) hx hb dL_act_530 (by decide) ?_
                refine lv_iload hx hb dL_act_532 (lv_at hl 0 rfl) ?_
                refine lv_imul hx hb dL_act_534 ?_
                refine lv_iconst (v := (1 : Int32)) hx hb dL_act_535 (by decide) ?_
                refine lv_iadd hx hb dL_act_536 ?_
                obtain ⟨h_31, hT⟩ := mx_chk hT
                refine mx_iald X Z ha6 h_31 dL_act_537 ?_
                obtain ⟨v_32, e_v_32, hT⟩ := mx_nm hT
                refine mx_tops (congrArg (fun z => (.int (z) :: [] : List Value)) e_v_32) ?_
                refine lv_istore (lv' := [(8, .int (v_32)), (7, .int (q_9)), (0, .ref (mad E (240))), (1, .int (x1)), (2, .int (x2)), (3, .int (x3)), (4, .ref (mad E (a4))), (5, .ref (mad E (a5))), (6, .ref (mad E (a6)))]) hx hb dL_act_538 hl (by decide) rfl (fun ls hl => ?_)
                refine lv_aload hx hb dL_act_540 (lv_at hl 8 rfl) ?_
                refine lv_bipush (v := (10 : Int32)) hx hb dL_act_542 (by decide) ?_
                refine lv_iload hx hb dL_act_544 (lv_at hl 1 rfl) ?_
                refine lv_imul hx hb dL_act_546 ?_
                refine lv_iconst (v := (1 : Int32)) hx hb dL_act_547 (by decide) ?_
                refine lv_iadd hx hb dL_act_548 ?_
                refine lv_iconst (v := (1 : Int32)) hx hb dL_act_549 (by decide) ?_
                refine lv_iload_n hx hb dL_act_550 rfl (lv_at hl 5 rfl) ?_
                refine lv_bipush (v := (20 : Int32)) hx hb dL_act_551 (by decide) ?_
                obtain ⟨q_33, h_q_33, hT⟩ := mx_bind hT
                refine mx_callS (As := [.int (x3), .int ((20 : Int32))]) (rest := [.int ((1 : Int32)), .int ((((10 : Int32)) * q_9) + ((1 : Int32))), .ref (mad E (a6))]) (st1 := [.int (q_33), .int ((1 : Int32)), .int ((((10 : Int32)) * q_9) + ((1 : Int32))), .ref (mad E (a6))]) X Z hl.1 (mL_at l E hJ _ _ _ _ h_q_33) wd_17_3 wd_17_4 wd_10_7 wd_17_5 hdL_at ⟨Nat.le_trans (by decide) hR.1, Nat.le_trans (by decide) hR.2⟩ ⟨Nat.zero_le _, Nat.zero_le _⟩ (Nat.le_of_ble_eq_true rfl) rfl rfl dL_act_553 (fun H locs Z => ?_)
                refine lv_iadd hx hb dL_act_556 ?_
                obtain ⟨h_34, hT⟩ := mx_chk hT
                obtain ⟨G_35, e_G_35, hT⟩ := mx_nm hT
                refine mx_iast X Z ha6 h_34 dL_act_557 (fun H locs Z => ?_)
                rw [e_G_35] at Z
                refine lv_aload_n hx hb dL_act_558 rfl (lv_at hl 2 rfl) ?_
                refine lv_iload hx hb dL_act_559 (lv_at hl 1 rfl) ?_
                refine lv_aload hx hb dL_act_561 (lv_at hl 8 rfl) ?_
                refine lv_bipush (v := (10 : Int32)) hx hb dL_act_563 (by decide) ?_
                refine lv_iload hx hb dL_act_565 (lv_at hl 1 rfl) ?_
                refine lv_imul hx hb dL_act_567 ?_
                refine lv_iconst (v := (1 : Int32)) hx hb dL_act_568 (by decide) ?_
                refine lv_iadd hx hb dL_act_569 ?_
                obtain ⟨h_36, hT⟩ := mx_chk hT
                refine mx_iald X Z ha6 h_36 dL_act_570 ?_
                obtain ⟨q_37, h_q_37, hT⟩ := mx_bind hT
                refine mx_callV (As := [.int (q_9), .int (G_35 a6 (((((10 : Int32)) * q_9) + ((1 : Int32))).toNatClampNeg))]) (rest := []) (st1 := [.int (q_37.1)]) (C := RX5) (T := TX5) (N := 6) (ci := 5) X Z hl.1 (c5_setLoad l E hJ hd0 _ _ _ _ h_q_37) wd_22_23 wd_23_0 wd_23_1 wd_1_2 wd_23_2 hd5_setLoad ⟨Nat.le_trans (by decide) hR.1, Nat.le_trans (by decide) hR.2⟩ ⟨Nat.zero_le _, Nat.zero_le _⟩ hd0.i (hd0.c _) rfl (Nat.le_of_ble_eq_true rfl) rfl rfl dL_act_571 (fun H locs Z => ?_)
                refine lv_iload hx hb dL_act_574 (lv_at hl 0 rfl) ?_
                refine lv_icmp_ne (tgt := 583) hx hb dL_act_576 (by decide) (fun h_38 => ?_) (fun h_38 => ?_)
                · replace hT := mx_f hT h_38
                  refine lv_iconst (v := (0 : Int32)) hx hb dL_act_583 (by decide) ?_
                  cases hT
                  exact W.zret (v := (0 : Int32)) hx hb hr rfl (fun t ht hW => mx_end Z t ht _) Z.2.2.2 dL_act_584
                · replace hT := mx_t hT h_38
                  refine lv_iconst (v := (1 : Int32)) hx hb dL_act_579 (by decide) ?_
                  refine lv_goto (tgt := 584) hx hb dL_act_580 (by decide) ?_
                  cases hT
                  exact W.zret (v := (1 : Int32)) hx hb hr rfl (fun t ht hW => mx_end Z t ht _) Z.2.2.2 dL_act_584
            · replace hT := mx_t hT h_7
              refine lv_aload_n hx hb dL_act_475 rfl (lv_at hl 0 rfl) ?_
              refine lv_iconst (v := (0 : Int32)) hx hb dL_act_476 (by decide) ?_
              obtain ⟨q_39, h_q_39, hT⟩ := mx_bind hT
              refine mx_callV (As := [.int ((0 : Int32))]) (rest := []) (st1 := [.int (q_39.1)]) (C := RX5) (T := TX5) (N := 6) (ci := 5) X Z hl.1 (c5_dropTrain l E hJ hd0 _ _ _ h_q_39) wd_22_15 wd_22_16 wd_22_17 wd_1_2 wd_22_18 hd5_dropTrain ⟨Nat.le_trans (by decide) hR.1, Nat.le_trans (by decide) hR.2⟩ ⟨Nat.zero_le _, Nat.zero_le _⟩ hd0.i (hd0.c _) rfl (Nat.le_of_ble_eq_true rfl) rfl rfl dL_act_477 (fun H locs Z => ?_)
              refine lv_bipush (v := (-2 : Int32)) hx hb dL_act_480 (by decide) ?_
              refine lv_icmp_ne (tgt := 510) hx hb dL_act_482 (by decide) (fun h_40 => ?_) (fun h_40 => ?_)
              · replace hT := mx_f hT h_40
                refine lv_iconst (v := (0 : Int32)) hx hb dL_act_510 (by decide) ?_
                cases hT
                exact W.zret (v := (0 : Int32)) hx hb hr rfl (fun t ht hW => mx_end Z t ht _) Z.2.2.2 dL_act_511
              · replace hT := mx_t hT h_40
                refine lv_aload_n hx hb dL_act_485 rfl (lv_at hl 0 rfl) ?_
                refine lv_iconst (v := (0 : Int32)) hx hb dL_act_486 (by decide) ?_
                refine lv_iconst (v := (1 : Int32)) hx hb dL_act_487 (by decide) ?_
                obtain ⟨q_41, h_q_41, hT⟩ := mx_bind hT
                refine mx_callV (As := [.int ((0 : Int32)), .int ((1 : Int32))]) (rest := []) (st1 := [.int (q_41.1)]) (C := RX5) (T := TX5) (N := 6) (ci := 5) X Z hl.1 (c5_setLoad l E hJ hd0 _ _ _ _ h_q_41) wd_22_23 wd_23_0 wd_23_1 wd_1_2 wd_23_2 hd5_setLoad ⟨Nat.le_trans (by decide) hR.1, Nat.le_trans (by decide) hR.2⟩ ⟨Nat.zero_le _, Nat.zero_le _⟩ hd0.i (hd0.c _) rfl (Nat.le_of_ble_eq_true rfl) rfl rfl dL_act_488 (fun H locs Z => ?_)
                refine lv_bipush (v := (-2 : Int32)) hx hb dL_act_491 (by decide) ?_
                refine lv_icmp_ne (tgt := 510) hx hb dL_act_493 (by decide) (fun h_42 => ?_) (fun h_42 => ?_)
                · replace hT := mx_f hT h_42
                  refine lv_iconst (v := (0 : Int32)) hx hb dL_act_510 (by decide) ?_
                  cases hT
                  exact W.zret (v := (0 : Int32)) hx hb hr rfl (fun t ht hW => mx_end Z t ht _) Z.2.2.2 dL_act_511
                · replace hT := mx_t hT h_42
                  refine lv_aload_n hx hb dL_act_496 rfl (lv_at hl 0 rfl) ?_
                  refine lv_iconst (v := (0 : Int32)) hx hb dL_act_497 (by decide) ?_
                  obtain ⟨q_43, h_q_43, hT⟩ := mx_bind hT
                  refine mx_callV (As := [.int ((0 : Int32))]) (rest := []) (st1 := [.int (q_43)]) (C := RX5) (T := TX5) (N := 6) (ci := 5) X Z hl.1 (c5_why l E hJ hd0 _ _ _ h_q_43) wd_12_22 wd_12_23 wd_13_0 wd_1_2 wd_13_1 hd5_why ⟨Nat.le_trans (by decide) hR.1, Nat.le_trans (by decide) hR.2⟩ ⟨Nat.zero_le _, Nat.zero_le _⟩ hd0.i (hd0.c _) rfl (Nat.le_of_ble_eq_true rfl) rfl rfl dL_act_498 (fun H locs Z => ?_)
                  refine lv_bipush (v := (-2 : Int32)) hx hb dL_act_501 (by decide) ?_
                  refine lv_icmp_ne (tgt := 510) hx hb dL_act_503 (by decide) (fun h_44 => ?_) (fun h_44 => ?_)
                  · replace hT := mx_f hT h_44
                    refine lv_iconst (v := (0 : Int32)) hx hb dL_act_510 (by decide) ?_
                    cases hT
                    exact W.zret (v := (0 : Int32)) hx hb hr rfl (fun t ht hW => mx_end Z t ht _) Z.2.2.2 dL_act_511
                  · replace hT := mx_t hT h_44
                    refine lv_iconst (v := (1 : Int32)) hx hb dL_act_506 (by decide) ?_
                    refine lv_goto (tgt := 511) hx hb dL_act_507 (by decide) ?_
                    cases hT
                    exact W.zret (v := (1 : Int32)) hx hb hr rfl (fun t ht hW => mx_end Z t ht _) Z.2.2.2 dL_act_511
          · replace hT := mx_t hT h_5
            refine lv_iload_n hx hb dL_act_437 rfl (lv_at hl 3 rfl) ?_
            refine lv_iconst (v := (3 : Int32)) hx hb dL_act_438 (by decide) ?_
            obtain ⟨q_45, h_q_45, hT⟩ := mx_bind hT
            refine mx_callS (As := [.int (x3), .int ((3 : Int32))]) (rest := []) (st1 := [.int (q_45)]) X Z hl.1 (mL_at l E hJ _ _ _ _ h_q_45) wd_17_3 wd_17_4 wd_10_7 wd_17_5 hdL_at ⟨Nat.le_trans (by decide) hR.1, Nat.le_trans (by decide) hR.2⟩ ⟨Nat.zero_le _, Nat.zero_le _⟩ (Nat.le_of_ble_eq_true rfl) rfl rfl dL_act_439 (fun H locs Z => ?_)
            refine lv_if_gt (tgt := 462) hx hb dL_act_442 (by decide) (fun h_46 => ?_) (fun h_46 => ?_)
            · replace hT := mx_t hT h_46
              refine lv_iconst (v := (1 : Int32)) hx hb dL_act_462 (by decide) ?_
              refine lv_goto (tgt := 467) hx hb dL_act_463 (by decide) ?_
              cases hT
              exact W.zret (v := (1 : Int32)) hx hb hr rfl (fun t ht hW => mx_end Z t ht _) Z.2.2.2 dL_act_467
            · replace hT := mx_f hT h_46
              refine lv_aload_n hx hb dL_act_445 rfl (lv_at hl 0 rfl) ?_
              refine lv_iload_n hx hb dL_act_446 rfl (lv_at hl 2 rfl) ?_
              refine lv_iload_n hx hb dL_act_447 rfl (lv_at hl 3 rfl) ?_
              refine lv_iconst (v := (2 : Int32)) hx hb dL_act_448 (by decide) ?_
              refine lv_ishr hx hb dL_act_449 ?_
              refine lv_aload hx hb dL_act_450 (lv_at hl 4 rfl) ?_
              refine lv_aload hx hb dL_act_452 (lv_at hl 5 rfl) ?_
              refine lv_aload hx hb dL_act_454 (lv_at hl 6 rfl) ?_
              obtain ⟨q_47, h_q_47, hT⟩ := mx_bind hT
              refine mx_callS (As := [.ref (mad E (240)), .int (x2), .int (x3 >>> ((2 : Int32) &&& 31)), .ref (mad E (a4)), .ref (mad E (a5)), .ref (mad E (a6))]) (rest := []) (st1 := [.int (q_47.1)]) X Z hl.1 (mL_lay l E hJ hd0 ha4 ha5 ha6 _ _ _ _ h_q_47) wd_21_0 wd_21_1 wd_10_7 wd_21_2 hdL_lay ⟨Nat.le_trans (by decide) hR.1, Nat.le_trans (by decide) hR.2⟩ ⟨Nat.zero_le _, Nat.zero_le _⟩ (Nat.le_of_ble_eq_true rfl) rfl rfl dL_act_456 (fun H locs Z => ?_)
              refine lv_if_eq (tgt := 466) hx hb dL_act_459 (by decide) (fun h_48 => ?_) (fun h_48 => ?_)
              · replace hT := mx_t hT h_48
                refine lv_iconst (v := (0 : Int32)) hx hb dL_act_466 (by decide) ?_
                cases hT
                exact W.zret (v := (0 : Int32)) hx hb hr rfl (fun t ht hW => mx_end Z t ht _) Z.2.2.2 dL_act_467
              · replace hT := mx_f hT h_48
                refine lv_iconst (v := (1 : Int32)) hx hb dL_act_462 (by decide) ?_
                refine lv_goto (tgt := 467) hx hb dL_act_463 (by decide) ?_
                cases hT
                exact W.zret (v := (1 : Int32)) hx hb hr rfl (fun t ht hW => mx_end Z t ht _) Z.2.2.2 dL_act_467
        · replace hT := mx_f hT h_4
          refine lv_iload_n hx hb dL_act_327 rfl (lv_at hl 2 rfl) ?_
          refine lv_iconst (v := (3 : Int32)) hx hb dL_act_328 (by decide) ?_
          obtain ⟨q_49, h_q_49, hT⟩ := mx_bind hT
          refine mx_callS (As := [.int (x2), .int ((3 : Int32))]) (rest := []) (st1 := [.int (q_49)]) X Z hl.1 (mL_at l E hJ _ _ _ _ h_q_49) wd_17_3 wd_17_4 wd_10_7 wd_17_5 hdL_at ⟨Nat.le_trans (by decide) hR.1, Nat.le_trans (by decide) hR.2⟩ ⟨Nat.zero_le _, Nat.zero_le _⟩ (Nat.le_of_ble_eq_true rfl) rfl rfl dL_act_329 (fun H locs Z => ?_)
          refine lv_istore (lv' := [(7, .int (q_49)), (0, .ref (mad E (240))), (1, .int (x1)), (2, .int (x2)), (3, .int (x3)), (4, .ref (mad E (a4))), (5, .ref (mad E (a5))), (6, .ref (mad E (a6)))]) hx hb dL_act_332 hl (by decide) rfl (fun ls hl => ?_)
          refine lv_aload hx hb dL_act_334 (lv_at hl 5 rfl) ?_
          refine lv_iconst (v := (2 : Int32)) hx hb dL_act_336 (by decide) ?_
          refine lv_iload hx hb dL_act_337 (lv_at hl 0 rfl) ?_
          refine lv_iadd hx hb dL_act_339 ?_
          obtain ⟨h_50, hT⟩ := mx_chk hT
          refine mx_iald X Z ha4 h_50 dL_act_340 ?_
          obtain ⟨v_51, e_v_51, hT⟩ := mx_nm hT
          refine mx_tops (congrArg (fun z => (.int (z) :: [] : List Value)) e_v_51) ?_
          refine lv_istore (lv' := [(8, .int (v_51)), (7, .int (q_49)), (0, .ref (mad E (240))), (1, .int (x1)), (2, .int (x2)), (3, .int (x3)), (4, .ref (mad E (a4))), (5, .ref (mad E (a5))), (6, .ref (mad E (a6)))]) hx hb dL_act_341 hl (by decide) rfl (fun ls hl => ?_)
          refine lv_aload hx hb dL_act_343 (lv_at hl 6 rfl) ?_
          refine lv_iconst (v := (2 : Int32)) hx hb dL_act_345 (by decide) ?_
          refine lv_iload hx hb dL_act_346 (lv_at hl 1 rfl) ?_
          refine lv_iadd hx hb dL_act_348 ?_
          refine lv_iload hx hb dL_act_349 (lv_at hl 1 rfl) ?_
          refine lv_if_ne (tgt := 384) hx hb dL_act_351 (by decide) (fun h_52 => ?_) (fun h_52 => ?_)
          · replace hT := mx_f hT h_52
            refine lv_iload hx hb dL_act_384 (lv_at hl 1 rfl) ?_
            refine lv_iconst (v := (1 : Int32)) hx hb dL_act_386 (by decide) ?_
            refine lv_icmp_ne (tgt := 401) hx hb dL_act_387 (by decide) (fun h_53 => ?_) (fun h_53 => ?_)
            · replace hT := mx_f hT h_53
              refine lv_iload_n hx hb dL_act_401 rfl (lv_at hl 5 rfl) ?_
              refine lv_iconst (v := (3 : Int32)) hx hb dL_act_402 (by decide) ?_
              obtain ⟨q_54, h_q_54, hT⟩ := mx_bind hT
              refine mx_callS (As := [.int (x3), .int ((3 : Int32))]) (rest := [.int (((2 : Int32)) + q_49), .ref (mad E (a4))]) (st1 := [.int (q_54), .int (((2 : Int32)) + q_49), .ref (mad E (a4))]) X Z hl.1 (mL_at l E hJ _ _ _ _ h_q_54) wd_17_3 wd_17_4 wd_10_7 wd_17_5 hdL_at ⟨Nat.le_trans (by decide) hR.1, Nat.le_trans (by decide) hR.2⟩ ⟨Nat.zero_le _, Nat.zero_le _⟩ (Nat.le_of_ble_eq_true rfl) rfl rfl dL_act_403 (fun H locs Z => ?_)
              obtain ⟨h_55, hT⟩ := mx_chk hT
              obtain ⟨G_56, e_G_56, hT⟩ := mx_nm hT
              refine mx_iast X Z ha4 h_55 dL_act_406 (fun H locs Z => ?_)
              rw [e_G_56] at Z
              refine lv_aload_n hx hb dL_act_407 rfl (lv_at hl 2 rfl) ?_
              refine lv_iload hx hb dL_act_408 (lv_at hl 1 rfl) ?_
              refine lv_aload hx hb dL_act_410 (lv_at hl 6 rfl) ?_
              refine lv_iconst (v := (2 : Int32)) hx hb dL_act_412 (by decide) ?_
              refine lv_iload hx hb dL_act_413 (lv_at hl 1 rfl) ?_
              refine lv_iadd hx hb dL_act_415 ?_
              obtain ⟨h_57, hT⟩ := mx_chk hT
              refine mx_iald X Z ha4 h_57 dL_act_416 ?_
              obtain ⟨q_58, h_q_58, hT⟩ := mx_bind hT
              refine mx_callV (As := [.int (q_49), .int (G_56 a4 ((((2 : Int32)) + q_49).toNatClampNeg))]) (rest := []) (st1 := [.int (q_58.1)]) (C := RX5) (T := TX5) (N := 6) (ci := 5) X Z hl.1 (c5_set l E hJ hd0 _ _ _ _ h_q_58) wd_20_18 wd_20_19 wd_20_20 wd_1_2 wd_20_21 hd5_set ⟨Nat.le_trans (by decide) hR.1, Nat.le_trans (by decide) hR.2⟩ ⟨Nat.zero_le _, Nat.zero_le _⟩ hd0.i (hd0.c _) rfl (Nat.le_of_ble_eq_true rfl) rfl rfl dL_act_417 (fun H locs Z => ?_)
              refine lv_iload hx hb dL_act_420 (lv_at hl 0 rfl) ?_
              refine lv_icmp_ne (tgt := 429) hx hb dL_act_422 (by decide) (fun h_59 => ?_) (fun h_59 => ?_)
              · replace hT := mx_f hT h_59
                refine lv_iconst (v := (0 : Int32)) hx hb dL_act_429 (by decide) ?_
                cases hT
                exact W.zret (v := (0 : Int32)) hx hb hr rfl (fun t ht hW => mx_end Z t ht _) Z.2.2.2 dL_act_430
              · replace hT := mx_t hT h_59
                refine lv_iconst (v := (1 : Int32)) hx hb dL_act_425 (by decide) ?_
                refine lv_goto (tgt := 430) hx hb dL_act_426 (by decide) ?_
                cases hT
                exact W.zret (v := (1 : Int32)) hx hb hr rfl (fun t ht hW => mx_end Z t ht _) Z.2.2.2 dL_act_430
            · replace hT := mx_t hT h_53
              refine lv_iconst (v := (1 : Int32)) hx hb dL_act_390 (by decide) ?_
              refine lv_iload_n hx hb dL_act_391 rfl (lv_at hl 5 rfl) ?_
              refine lv_bipush (v := (50 : Int32)) hx hb dL_act_392 (by decide) ?_
              obtain ⟨q_60, h_q_60, hT⟩ := mx_bind hT
              refine mx_callS (As := [.int (x3), .int ((50 : Int32))]) (rest := [.int ((1 : Int32)), .int (((2 : Int32)) + q_49), .ref (mad E (a4))]) (st1 := [.int (q_60), .int ((1 : Int32)), .int (((2 : Int32)) + q_49), .ref (mad E (a4))]) X Z hl.1 (mL_at l E hJ _ _ _ _ h_q_60) wd_17_3 wd_17_4 wd_10_7 wd_17_5 hdL_at ⟨Nat.le_trans (by decide) hR.1, Nat.le_trans (by decide) hR.2⟩ ⟨Nat.zero_le _, Nat.zero_le _⟩ (Nat.le_of_ble_eq_true rfl) rfl rfl dL_act_394 (fun H locs Z => ?_)
              refine lv_iadd hx hb dL_act_397 ?_
              refine lv_goto (tgt := 406) hx hb dL_act_398 (by decide) ?_
              obtain ⟨h_61, hT⟩ := mx_chk hT
              obtain ⟨G_62, e_G_62, hT⟩ := mx_nm hT
              refine mx_iast X Z ha4 h_61 dL_act_406 (fun H locs Z => ?_)
              rw [e_G_62] at Z
              refine lv_aload_n hx hb dL_act_407 rfl (lv_at hl 2 rfl) ?_
              refine lv_iload hx hb dL_act_408 (lv_at hl 1 rfl) ?_
              refine lv_aload hx hb dL_act_410 (lv_at hl 6 rfl) ?_
              refine lv_iconst (v := (2 : Int32)) hx hb dL_act_412 (by decide) ?_
              refine lv_iload hx hb dL_act_413 (lv_at hl 1 rfl) ?_
              refine lv_iadd hx hb dL_act_415 ?_
              obtain ⟨h_63, hT⟩ := mx_chk hT
              refine mx_iald X Z ha4 h_63 dL_act_416 ?_
              obtain ⟨q_64, h_q_64, hT⟩ := mx_bind hT
              refine mx_callV (As := [.int (q_49), .int (G_62 a4 ((((2 : Int32)) + q_49).toNatClampNeg))]) (rest := []) (st1 := [.int (q_64.1)]) (C := RX5) (T := TX5) (N := 6) (ci := 5) X Z hl.1 (c5_set l E hJ hd0 _ _ _ _ h_q_64) wd_20_18 wd_20_19 wd_20_20 wd_1_2 wd_20_21 hd5_set ⟨Nat.le_trans (by decide) hR.1, Nat.le_trans (by decide) hR.2⟩ ⟨Nat.zero_le _, Nat.zero_le _⟩ hd0.i (hd0.c _) rfl (Nat.le_of_ble_eq_true rfl) rfl rfl dL_act_417 (fun H locs Z => ?_)
              refine lv_iload hx hb dL_act_420 (lv_at hl 0 rfl) ?_
              refine lv_icmp_ne (tgt := 429) hx hb dL_act_422 (by decide) (fun h_65 => ?_) (fun h_65 => ?_)
              · replace hT := mx_f hT h_65
                refine lv_iconst (v := (0 : Int32)) hx hb dL_act_429 (by decide) ?_
                cases hT
                exact W.zret (v := (0 : Int32)) hx hb hr rfl (fun t ht hW => mx_end Z t ht _) Z.2.2.2 dL_act_430
              · replace hT := mx_t hT h_65
                refine lv_iconst (v := (1 : Int32)) hx hb dL_act_425 (by decide) ?_
                refine lv_goto (tgt := 430) hx hb dL_act_426 (by decide) ?_
                cases hT
                exact W.zret (v := (1 : Int32)) hx hb hr rfl (fun t ht hW => mx_end Z t ht _) Z.2.2.2 dL_act_430
          · replace hT := mx_t hT h_52
            refine lv_bipush (v := (10 : Int32)) hx hb dL_act_354 (by decide) ?_
            refine lv_iload_n hx hb dL_act_356 rfl (lv_at hl 5 rfl) ?_
            refine lv_iload_n hx hb dL_act_357 rfl (lv_at hl 5 rfl) ?_
            refine lv_bipush (v := (8 : Int32)) hx hb dL_act_358 (by decide) ?_
            refine lv_ishr hx hb dL_act_360 ?_
            refine lv_iconst (v := (2 : Int32)) hx hb dL_act_361 (by decide) ?_
            obtain ⟨q_66, h_q_66, hT⟩ := mx_bind hT
            refine mx_callS (As := [.int (x3 >>> ((8 : Int32) &&& 31)), .int ((2 : Int32))]) (rest := [.int (x3), .int ((10 : Int32)), .int (((2 : Int32)) + q_49), .ref (mad E (a4))]) (st1 := [.int (q_66), .int (x3), .int ((10 : Int32)), .int (((2 : Int32)) + q_49), .ref (mad E (a4))]) X Z hl.1 (mL_at l E hJ _ _ _ _ h_q_66) wd_17_3 wd_17_4 wd_10_7 wd_17_5 hdL_at ⟨Nat.le_trans (by decide) hR.1, Nat.le_trans (by decide) hR.2⟩ ⟨Nat.zero_le _, Nat.zero_le _⟩ (Nat.le_of_ble_eq_true rfl) rfl rfl dL_act_362 (fun H locs Z => ?_)
            refine lv_if_ne (tgt := 374) hx hb dL_act_365 (by decide) (fun h_67 => ?_) (fun h_67 => ?_)
            · replace hT := mx_f hT h_67
              refine lv_sipush (v := (200 : Int32)) hx hb dL_act_374 (by decide) ?_
              obtain ⟨q_68, h_q_68, hT⟩ := mx_bind hT
              refine mx_callS (As := [.int (x3), .int ((200 : Int32))]) (rest := [.int ((10 : Int32)), .int (((2 : Int32)) + q_49), .ref (mad E (a4))]) (st1 := [.int (q_68), .int ((10 : Int32)), .int (((2 : Int32)) + q_49), .ref (mad E (a4))]) X Z hl.1 (mL_at l E hJ _ _ _ _ h_q_68) wd_17_3 wd_17_4 wd_10_7 wd_17_5 hdL_at ⟨Nat.le_trans (by decide) hR.1, Nat.le_trans (by decide) hR.2⟩ ⟨Nat.zero_le _, Nat.zero_le _⟩ (Nat.le_of_ble_eq_true rfl) rfl rfl dL_act_377 (fun H locs Z => ?_)
              refine lv_iadd hx hb dL_act_380 ?_
              refine lv_goto (tgt := 406) hx hb dL_act_381 (by decide) ?_
              obtain ⟨h_69, hT⟩ := mx_chk hT
              obtain ⟨G_70, e_G_70, hT⟩ := mx_nm hT
              refine mx_iast X Z ha4 h_69 dL_act_406 (fun H locs Z => ?_)
              rw [e_G_70] at Z
              refine lv_aload_n hx hb dL_act_407 rfl (lv_at hl 2 rfl) ?_
              refine lv_iload hx hb dL_act_408 (lv_at hl 1 rfl) ?_
              refine lv_aload hx hb dL_act_410 (lv_at hl 6 rfl) ?_
              refine lv_iconst (v := (2 : Int32)) hx hb dL_act_412 (by decide) ?_
              refine lv_iload hx hb dL_act_413 (lv_at hl 1 rfl) ?_
              refine lv_iadd hx hb dL_act_415 ?_
              obtain ⟨h_71, hT⟩ := mx_chk hT
              refine mx_iald X Z ha4 h_71 dL_act_416 ?_
              obtain ⟨q_72, h_q_72, hT⟩ := mx_bind hT
              refine mx_callV (As := [.int (q_49), .int (G_70 a4 ((((2 : Int32)) + q_49).toNatClampNeg))]) (rest := []) (st1 := [.int (q_72.1)]) (C := RX5) (T := TX5) (N := 6) (ci := 5) X Z hl.1 (c5_set l E hJ hd0 _ _ _ _ h_q_72) wd_20_18 wd_20_19 wd_20_20 wd_1_2 wd_20_21 hd5_set ⟨Nat.le_trans (by decide) hR.1, Nat.le_trans (by decide) hR.2⟩ ⟨Nat.zero_le _, Nat.zero_le _⟩ hd0.i (hd0.c _) rfl (Nat.le_of_ble_eq_true rfl) rfl rfl dL_act_417 (fun H locs Z => ?_)
              refine lv_iload hx hb dL_act_420 (lv_at hl 0 rfl) ?_
              refine lv_icmp_ne (tgt := 429) hx hb dL_act_422 (by decide) (fun h_73 => ?_) (fun h_73 => ?_)
              · replace hT := mx_f hT h_73
                refine lv_iconst (v := (0 : Int32)) hx hb dL_act_429 (by decide) ?_
                cases hT
                exact W.zret (v := (0 : Int32)) hx hb hr rfl (fun t ht hW => mx_end Z t ht _) Z.2.2.2 dL_act_430
              · replace hT := mx_t hT h_73
                refine lv_iconst (v := (1 : Int32)) hx hb dL_act_425 (by decide) ?_
                refine lv_goto (tgt := 430) hx hb dL_act_426 (by decide) ?_
                cases hT
                exact W.zret (v := (1 : Int32)) hx hb hr rfl (fun t ht hW => mx_end Z t ht _) Z.2.2.2 dL_act_430
            · replace hT := mx_t hT h_67
              refine lv_sipush (v := (891 : Int32)) hx hb dL_act_368 (by decide) ?_
              refine lv_goto (tgt := 377) hx hb dL_act_371 (by decide) ?_
              obtain ⟨q_74, h_q_74, hT⟩ := mx_bind hT
              refine mx_callS (As := [.int (x3), .int ((891 : Int32))]) (rest := [.int ((10 : Int32)), .int (((2 : Int32)) + q_49), .ref (mad E (a4))]) (st1 := [.int (q_74), .int ((10 : Int32)), .int (((2 : Int32)) + q_49), .ref (mad E (a4))]) X Z hl.1 (mL_at l E hJ _ _ _ _ h_q_74) wd_17_3 wd_17_4 wd_10_7 wd_17_5 hdL_at ⟨Nat.le_trans (by decide) hR.1, Nat.le_trans (by decide) hR.2⟩ ⟨Nat.zero_le _, Nat.zero_le _⟩ (Nat.le_of_ble_eq_true rfl) rfl rfl dL_act_377 (fun H locs Z => ?_)
              refine lv_iadd hx hb dL_act_380 ?_
              refine lv_goto (tgt := 406) hx hb dL_act_381 (by decide) ?_
              obtain ⟨h_75, hT⟩ := mx_chk hT
              obtain ⟨G_76, e_G_76, hT⟩ := mx_nm hT
              refine mx_iast X Z ha4 h_75 dL_act_406 (fun H locs Z => ?_)
              rw [e_G_76] at Z
              refine lv_aload_n hx hb dL_act_407 rfl (lv_at hl 2 rfl) ?_
              refine lv_iload hx hb dL_act_408 (lv_at hl 1 rfl) ?_
              refine lv_aload hx hb dL_act_410 (lv_at hl 6 rfl) ?_
              refine lv_iconst (v := (2 : Int32)) hx hb dL_act_412 (by decide) ?_
              refine lv_iload hx hb dL_act_413 (lv_at hl 1 rfl) ?_
              refine lv_iadd hx hb dL_act_415 ?_
              obtain ⟨h_77, hT⟩ := mx_chk hT
              refine mx_iald X Z ha4 h_77 dL_act_416 ?_
              obtain ⟨q_78, h_q_78, hT⟩ := mx_bind hT
              refine mx_callV (As := [.int (q_49), .int (G_76 a4 ((((2 : Int32)) + q_49).toNatClampNeg))]) (rest := []) (st1 := [.int (q_78.1)]) (C := RX5) (T := TX5) (N := 6) (ci := 5) X Z hl.1 (c5_set l E hJ hd0 _ _ _ _ h_q_78) wd_20_18 wd_20_19 wd_20_20 wd_1_2 wd_20_21 hd5_set ⟨Nat.le_trans (by decide) hR.1, Nat.le_trans (by decide) hR.2⟩ ⟨Nat.zero_le _, Nat.zero_le _⟩ hd0.i (hd0.c _) rfl (Nat.le_of_ble_eq_true rfl) rfl rfl dL_act_417 (fun H locs Z => ?_)
              refine lv_iload hx hb dL_act_420 (lv_at hl 0 rfl) ?_
              refine lv_icmp_ne (tgt := 429) hx hb dL_act_422 (by decide) (fun h_79 => ?_) (fun h_79 => ?_)
              · replace hT := mx_f hT h_79
                refine lv_iconst (v := (0 : Int32)) hx hb dL_act_429 (by decide) ?_
                cases hT
                exact W.zret (v := (0 : Int32)) hx hb hr rfl (fun t ht hW => mx_end Z t ht _) Z.2.2.2 dL_act_430
              · replace hT := mx_t hT h_79
                refine lv_iconst (v := (1 : Int32)) hx hb dL_act_425 (by decide) ?_
                refine lv_goto (tgt := 430) hx hb dL_act_426 (by decide) ?_
                cases hT
                exact W.zret (v := (1 : Int32)) hx hb hr rfl (fun t ht hW => mx_end Z t ht _) Z.2.2.2 dL_act_430
      · replace hT := mx_f hT h_3
        refine lv_iconst (v := (1 : Int32)) hx hb dL_act_192 (by decide) ?_
        refine lv_iload_n hx hb dL_act_193 rfl (lv_at hl 2 rfl) ?_
        refine lv_bipush (v := (6 : Int32)) hx hb dL_act_194 (by decide) ?_
        obtain ⟨q_80, h_q_80, hT⟩ := mx_bind hT
        refine mx_callS (As := [.int (x2), .int ((6 : Int32))]) (rest := [.int ((1 : Int32))]) (st1 := [.int (q_80), .int ((1 : Int32))]) X Z hl.1 (mL_at l E hJ _ _ _ _ h_q_80) wd_17_3 wd_17_4 wd_10_7 wd_17_5 hdL_at ⟨Nat.le_trans (by decide) hR.1, Nat.le_trans (by decide) hR.2⟩ ⟨Nat.zero_le _, Nat.zero_le _⟩ (Nat.le_of_ble_eq_true rfl) rfl rfl dL_act_196 (fun H locs Z => ?_)
        refine lv_iadd hx hb dL_act_199 ?_
        obtain ⟨v_81, e_v_81, hT⟩ := mx_nm hT
        refine mx_tops (congrArg (fun z => (.int (z) :: [] : List Value)) e_v_81) ?_
        refine lv_istore (lv' := [(7, .int (v_81)), (0, .ref (mad E (240))), (1, .int (x1)), (2, .int (x2)), (3, .int (x3)), (4, .ref (mad E (a4))), (5, .ref (mad E (a5))), (6, .ref (mad E (a6)))]) hx hb dL_act_200 hl (by decide) rfl (fun ls hl => ?_)
        refine lv_iconst (v := (1 : Int32)) hx hb dL_act_202 (by decide) ?_
        refine lv_iload_n hx hb dL_act_203 rfl (lv_at hl 4 rfl) ?_
        refine lv_bipush (v := (20 : Int32)) hx hb dL_act_204 (by decide) ?_
        obtain ⟨q_82, h_q_82, hT⟩ := mx_bind hT
        refine mx_callS (As := [.int (x3), .int ((20 : Int32))]) (rest := [.int ((1 : Int32))]) (st1 := [.int (q_82), .int ((1 : Int32))]) X Z hl.1 (mL_at l E hJ _ _ _ _ h_q_82) wd_17_3 wd_17_4 wd_10_7 wd_17_5 hdL_at ⟨Nat.le_trans (by decide) hR.1, Nat.le_trans (by decide) hR.2⟩ ⟨Nat.zero_le _, Nat.zero_le _⟩ (Nat.le_of_ble_eq_true rfl) rfl rfl dL_act_206 (fun H locs Z => ?_)
        refine lv_iadd hx hb dL_act_209 ?_
        obtain ⟨v_83, e_v_83, hT⟩ := mx_nm hT
        refine mx_tops (congrArg (fun z => (.int (z) :: [] : List Value)) e_v_83) ?_
        refine lv_istore (lv' := [(8, .int (v_83)), (7, .int (v_81)), (0, .ref (mad E (240))), (1, .int (x1)), (2, .int (x2)), (3, .int (x3)), (4, .ref (mad E (a4))), (5, .ref (mad E (a5))), (6, .ref (mad E (a6)))]) hx hb dL_act_210 hl (by decide) rfl (fun ls hl => ?_)
        refine lv_aload hx hb dL_act_212 (lv_at hl 6 rfl) ?_
        refine lv_iconst (v := (1 : Int32)) hx hb dL_act_214 (by decide) ?_
        obtain ⟨h_84, hT⟩ := mx_chk hT
        refine mx_iald X Z ha4 h_84 dL_act_215 ?_
        refine mx_tops (s2 := [.int (G a4 (((1 : Int32)).toNatClampNeg))]) rfl ?_
        refine lv_iconst (v := (4 : Int32)) hx hb dL_act_216 (by decide) ?_
        refine lv_icmp_ne (tgt := 239) hx hb dL_act_217 (by decide) (fun h_85 => ?_) (fun h_85 => ?_)
        · replace hT := mx_f hT h_85
          refine lv_iconst (v := (0 : Int32)) hx hb dL_act_239 (by decide) ?_
          refine lv_istore (lv' := [(9, .int ((0 : Int32))), (8, .int (v_83)), (7, .int (v_81)), (0, .ref (mad E (240))), (1, .int (x1)), (2, .int (x2)), (3, .int (x3)), (4, .ref (mad E (a4))), (5, .ref (mad E (a5))), (6, .ref (mad E (a6)))]) hx hb dL_act_240 hl (by decide) rfl (fun ls hl => ?_)
          obtain ⟨q_99, h_q_99, hT⟩ := mx_bind hT
          refine kL_act_242 X hR hJ hd0 ha4 ha6 _ _ _ _ _ _ _ _ _ h_q_99 Z (lv_sub (l' := [(0, .ref (mad E (240))), (4, .ref (mad E (a4))), (6, .ref (mad E (a6))), (7, .int (v_81)), (8, .int (v_83)), (9, .int ((0 : Int32)))]) hl [3, 7, 9, 2, 1, 0] rfl) (fun H locs ls Z hl => ?_)
          · refine lv_aload hx hb dL_act_290 (lv_at hl 1 rfl) ?_
            refine lv_iconst (v := (1 : Int32)) hx hb dL_act_292 (by decide) ?_
            refine lv_dup2_11 hx hb dL_act_293 rfl rfl ?_
            obtain ⟨h_100, hT⟩ := mx_chk hT
            refine mx_iald X Z ha4 h_100 dL_act_294 ?_
            refine mx_tops (s2 := [.int (q_99 a4 (((1 : Int32)).toNatClampNeg)), .int ((1 : Int32)), .ref (mad E (a4))]) rfl ?_
            refine lv_iconst (v := (1 : Int32)) hx hb dL_act_295 (by decide) ?_
            refine lv_iadd hx hb dL_act_296 ?_
            obtain ⟨h_101, hT⟩ := mx_chk hT
            obtain ⟨G_102, e_G_102, hT⟩ := mx_nm hT
            refine mx_iast X Z ha4 h_101 dL_act_297 (fun H locs Z => ?_)
            replace Z : mZ E s.heap H locs (up2 q_99 a4 (((1 : Int32)).toNatClampNeg) ((q_99 a4 (((1 : Int32)).toNatClampNeg)) + ((1 : Int32)))) := Z
            rw [e_G_102] at Z
            refine lv_aload_n hx hb dL_act_298 rfl (lv_at hl 0 rfl) ?_
            refine lv_iload hx hb dL_act_299 (lv_at hl 3 rfl) ?_
            refine lv_iload hx hb dL_act_301 (lv_at hl 4 rfl) ?_
            obtain ⟨q_103, h_q_103, hT⟩ := mx_bind hT
            refine mx_callV (As := [.int (v_81), .int (v_83)]) (rest := []) (st1 := [.int (q_103.1)]) (C := RX5) (T := TX5) (N := 6) (ci := 5) X Z hl.1 (c5_addTrain l E hJ hd0 _ _ _ _ h_q_103) wd_20_3 wd_20_4 wd_20_5 wd_1_2 wd_20_6 hd5_addTrain ⟨Nat.le_trans (by decide) hR.1, Nat.le_trans (by decide) hR.2⟩ ⟨Nat.zero_le _, Nat.zero_le _⟩ hd0.i (hd0.c _) rfl (Nat.le_of_ble_eq_true rfl) rfl rfl dL_act_303 (fun H locs Z => ?_)
            refine lv_aload hx hb dL_act_306 (lv_at hl 1 rfl) ?_
            refine lv_iconst (v := (1 : Int32)) hx hb dL_act_308 (by decide) ?_
            obtain ⟨h_104, hT⟩ := mx_chk hT
            refine mx_iald X Z ha4 h_104 dL_act_309 ?_
            refine mx_tops (s2 := [.int (q_103.2 a4 (((1 : Int32)).toNatClampNeg)), .int (q_103.1)]) rfl ?_
            refine lv_iconst (v := (1 : Int32)) hx hb dL_act_310 (by decide) ?_
            refine lv_isub hx hb dL_act_311 ?_
            refine lv_icmp_ne (tgt := 319) hx hb dL_act_312 (by decide) (fun h_105 => ?_) (fun h_105 => ?_)
            · replace hT := mx_f hT h_105
              refine lv_iconst (v := (0 : Int32)) hx hb dL_act_319 (by decide) ?_
              cases hT
              exact W.zret (v := (0 : Int32)) hx hb hr rfl (fun t ht hW => mx_end Z t ht _) Z.2.2.2 dL_act_320
            · replace hT := mx_t hT h_105
              refine lv_iconst (v := (1 : Int32)) hx hb dL_act_315 (by decide) ?_
              refine lv_goto (tgt := 320) hx hb dL_act_316 (by decide) ?_
              cases hT
              exact W.zret (v := (1 : Int32)) hx hb hr rfl (fun t ht hW => mx_end Z t ht _) Z.2.2.2 dL_act_320
        · replace hT := mx_t hT h_85
          refine lv_aload_n hx hb dL_act_220 rfl (lv_at hl 2 rfl) ?_
          refine lv_iload hx hb dL_act_221 (lv_at hl 1 rfl) ?_
          refine lv_iload hx hb dL_act_223 (lv_at hl 0 rfl) ?_
          obtain ⟨q_106, h_q_106, hT⟩ := mx_bind hT
          refine mx_callV (As := [.int (v_81), .int (v_83)]) (rest := []) (st1 := [.int (q_106.1)]) (C := RX5) (T := TX5) (N := 6) (ci := 5) X Z hl.1 (c5_addTrain l E hJ hd0 _ _ _ _ h_q_106) wd_20_3 wd_20_4 wd_20_5 wd_1_2 wd_20_6 hd5_addTrain ⟨Nat.le_trans (by decide) hR.1, Nat.le_trans (by decide) hR.2⟩ ⟨Nat.zero_le _, Nat.zero_le _⟩ hd0.i (hd0.c _) rfl (Nat.le_of_ble_eq_true rfl) rfl rfl dL_act_225 (fun H locs Z => ?_)
          refine lv_bipush (v := (-4 : Int32)) hx hb dL_act_228 (by decide) ?_
          refine lv_icmp_ne (tgt := 237) hx hb dL_act_230 (by decide) (fun h_107 => ?_) (fun h_107 => ?_)
          · replace hT := mx_f hT h_107
            refine lv_iconst (v := (0 : Int32)) hx hb dL_act_237 (by decide) ?_
            cases hT
            exact W.zret (v := (0 : Int32)) hx hb hr rfl (fun t ht hW => mx_end Z t ht _) Z.2.2.2 dL_act_238
          · replace hT := mx_t hT h_107
            refine lv_iconst (v := (1 : Int32)) hx hb dL_act_233 (by decide) ?_
            refine lv_goto (tgt := 238) hx hb dL_act_234 (by decide) ?_
            cases hT
            exact W.zret (v := (1 : Int32)) hx hb hr rfl (fun t ht hW => mx_end Z t ht _) Z.2.2.2 dL_act_238
    · replace hT := mx_f hT h_2
      refine lv_iconst (v := (1 : Int32)) hx hb dL_act_91 (by decide) ?_
      refine lv_iload_n hx hb dL_act_92 rfl (lv_at hl 2 rfl) ?_
      refine lv_iload_n hx hb dL_act_93 rfl (lv_at hl 3 rfl) ?_
      refine lv_iconst (v := (3 : Int32)) hx hb dL_act_94 (by decide) ?_
      obtain ⟨q_108, h_q_108, hT⟩ := mx_bind hT
      refine mx_callS (As := [.int (x3), .int ((3 : Int32))]) (rest := [.int (x2), .int ((1 : Int32))]) (st1 := [.int (q_108), .int (x2), .int ((1 : Int32))]) X Z hl.1 (mL_at l E hJ _ _ _ _ h_q_108) wd_17_3 wd_17_4 wd_10_7 wd_17_5 hdL_at ⟨Nat.le_trans (by decide) hR.1, Nat.le_trans (by decide) hR.2⟩ ⟨Nat.zero_le _, Nat.zero_le _⟩ (Nat.le_of_ble_eq_true rfl) rfl rfl dL_act_95 (fun H locs Z => ?_)
      refine lv_if_ne (tgt := 107) hx hb dL_act_98 (by decide) (fun h_109 => ?_) (fun h_109 => ?_)
      · replace hT := mx_f hT h_109
        refine lv_sipush (v := (150 : Int32)) hx hb dL_act_107 (by decide) ?_
        obtain ⟨q_110, h_q_110, hT⟩ := mx_bind hT
        refine mx_callS (As := [.int (x2), .int ((150 : Int32))]) (rest := [.int ((1 : Int32))]) (st1 := [.int (q_110), .int ((1 : Int32))]) X Z hl.1 (mL_at l E hJ _ _ _ _ h_q_110) wd_17_3 wd_17_4 wd_10_7 wd_17_5 hdL_at ⟨Nat.le_trans (by decide) hR.1, Nat.le_trans (by decide) hR.2⟩ ⟨Nat.zero_le _, Nat.zero_le _⟩ (Nat.le_of_ble_eq_true rfl) rfl rfl dL_act_110 (fun H locs Z => ?_)
        refine lv_iadd hx hb dL_act_113 ?_
        obtain ⟨v_111, e_v_111, hT⟩ := mx_nm hT
        refine mx_tops (congrArg (fun z => (.int (z) :: [] : List Value)) e_v_111) ?_
        refine lv_istore (lv' := [(7, .int (v_111)), (0, .ref (mad E (240))), (1, .int (x1)), (2, .int (x2)), (3, .int (x3)), (4, .ref (mad E (a4))), (5, .ref (mad E (a5))), (6, .ref (mad E (a6)))]) hx hb dL_act_114 hl (by decide) rfl (fun ls hl => ?_)
        refine lv_aload hx hb dL_act_116 (lv_at hl 5 rfl) ?_
        refine lv_bipush (v := (6 : Int32)) hx hb dL_act_118 (by decide) ?_
        obtain ⟨h_112, hT⟩ := mx_chk hT
        refine mx_iald X Z ha4 h_112 dL_act_120 ?_
        refine mx_tops (s2 := [.int (G a4 (((6 : Int32)).toNatClampNeg))]) rfl ?_
        refine lv_iload hx hb dL_act_121 (lv_at hl 0 rfl) ?_
        refine lv_iadd hx hb dL_act_123 ?_
        refine lv_sipush (v := (5000 : Int32)) hx hb dL_act_124 (by decide) ?_
        refine lv_icmp_le (tgt := 147) hx hb dL_act_127 (by decide) (fun h_113 => ?_) (fun h_113 => ?_)
        · replace hT := mx_t hT h_113
          refine lv_aload hx hb dL_act_147 (lv_at hl 5 rfl) ?_
          refine lv_iconst (v := (5 : Int32)) hx hb dL_act_149 (by decide) ?_
          refine lv_dup2_11 hx hb dL_act_150 rfl rfl ?_
          obtain ⟨h_114, hT⟩ := mx_chk hT
          refine mx_iald X Z ha4 h_114 dL_act_151 ?_
          refine mx_tops (s2 := [.int (G a4 (((5 : Int32)).toNatClampNeg)), .int ((5 : Int32)), .ref (mad E (a4))]) rfl ?_
          refine lv_iload hx hb dL_act_152 (lv_at hl 0 rfl) ?_
          refine lv_iadd hx hb dL_act_154 ?_
          obtain ⟨h_115, hT⟩ := mx_chk hT
          obtain ⟨G_116, e_G_116, hT⟩ := mx_nm hT
          refine mx_iast X Z ha4 h_115 dL_act_155 (fun H locs Z => ?_)
          replace Z : mZ E s.heap H locs (up2 G a4 (((5 : Int32)).toNatClampNeg) ((G a4 (((5 : Int32)).toNatClampNeg)) + v_111)) := Z
          rw [e_G_116] at Z
          refine lv_aload hx hb dL_act_156 (lv_at hl 5 rfl) ?_
          refine lv_bipush (v := (6 : Int32)) hx hb dL_act_158 (by decide) ?_
          refine lv_dup2_11 hx hb dL_act_160 rfl rfl ?_
          obtain ⟨h_117, hT⟩ := mx_chk hT
          refine mx_iald X Z ha4 h_117 dL_act_161 ?_
          refine mx_tops (s2 := [.int (G_116 a4 (((6 : Int32)).toNatClampNeg)), .int ((6 : Int32)), .ref (mad E (a4))]) rfl ?_
          refine lv_iload hx hb dL_act_162 (lv_at hl 0 rfl) ?_
          refine lv_iadd hx hb dL_act_164 ?_
          obtain ⟨h_118, hT⟩ := mx_chk hT
          obtain ⟨G_119, e_G_119, hT⟩ := mx_nm hT
          refine mx_iast X Z ha4 h_118 dL_act_165 (fun H locs Z => ?_)
          replace Z : mZ E s.heap H locs (up2 G_116 a4 (((6 : Int32)).toNatClampNeg) ((G_116 a4 (((6 : Int32)).toNatClampNeg)) + v_111)) := Z
          rw [e_G_119] at Z
          refine lv_aload_n hx hb dL_act_166 rfl (lv_at hl 1 rfl) ?_
          refine lv_iload hx hb dL_act_167 (lv_at hl 0 rfl) ?_
          obtain ⟨q_120, h_q_120, hT⟩ := mx_bind hT
          refine mx_callV (As := [.int (v_111)]) (rest := []) (st1 := [.int (q_120.1)]) (C := RX5) (T := TX5) (N := 6) (ci := 5) X Z hl.1 (c5_dig l E hJ hd0 _ _ _ h_q_120) wd_19_23 wd_20_0 wd_20_1 wd_1_2 wd_20_2 hd5_dig ⟨Nat.le_trans (by decide) hR.1, Nat.le_trans (by decide) hR.2⟩ ⟨Nat.zero_le _, Nat.zero_le _⟩ hd0.i (hd0.c _) rfl (Nat.le_of_ble_eq_true rfl) rfl rfl dL_act_169 (fun H locs Z => ?_)
          refine lv_aload hx hb dL_act_172 (lv_at hl 5 rfl) ?_
          refine lv_bipush (v := (6 : Int32)) hx hb dL_act_174 (by decide) ?_
          obtain ⟨h_121, hT⟩ := mx_chk hT
          refine mx_iald X Z ha4 h_121 dL_act_176 ?_
          refine mx_tops (s2 := [.int (q_120.2 a4 (((6 : Int32)).toNatClampNeg)), .int (q_120.1)]) rfl ?_
          refine lv_icmp_ne (tgt := 184) hx hb dL_act_177 (by decide) (fun h_122 => ?_) (fun h_122 => ?_)
          · replace hT := mx_f hT h_122
            refine lv_iconst (v := (0 : Int32)) hx hb dL_act_184 (by decide) ?_
            cases hT
            exact W.zret (v := (0 : Int32)) hx hb hr rfl (fun t ht hW => mx_end Z t ht _) Z.2.2.2 dL_act_185
          · replace hT := mx_t hT h_122
            refine lv_iconst (v := (1 : Int32)) hx hb dL_act_180 (by decide) ?_
            refine lv_goto (tgt := 185) hx hb dL_act_181 (by decide) ?_
            cases hT
            exact W.zret (v := (1 : Int32)) hx hb hr rfl (fun t ht hW => mx_end Z t ht _) Z.2.2.2 dL_act_185
        · replace hT := mx_f hT h_113
          refine lv_aload_n hx hb dL_act_130 rfl (lv_at hl 1 rfl) ?_
          refine lv_iload hx hb dL_act_131 (lv_at hl 0 rfl) ?_
          obtain ⟨q_123, h_q_123, hT⟩ := mx_bind hT
          refine mx_callV (As := [.int (v_111)]) (rest := []) (st1 := [.int (q_123.1)]) (C := RX5) (T := TX5) (N := 6) (ci := 5) X Z hl.1 (c5_dig l E hJ hd0 _ _ _ h_q_123) wd_19_23 wd_20_0 wd_20_1 wd_1_2 wd_20_2 hd5_dig ⟨Nat.le_trans (by decide) hR.1, Nat.le_trans (by decide) hR.2⟩ ⟨Nat.zero_le _, Nat.zero_le _⟩ hd0.i (hd0.c _) rfl (Nat.le_of_ble_eq_true rfl) rfl rfl dL_act_133 (fun H locs Z => ?_)
          refine lv_bipush (v := (-4 : Int32)) hx hb dL_act_136 (by decide) ?_
          refine lv_icmp_ne (tgt := 145) hx hb dL_act_138 (by decide) (fun h_124 => ?_) (fun h_124 => ?_)
          · replace hT := mx_f hT h_124
            refine lv_iconst (v := (0 : Int32)) hx hb dL_act_145 (by decide) ?_
            cases hT
            exact W.zret (v := (0 : Int32)) hx hb hr rfl (fun t ht hW => mx_end Z t ht _) Z.2.2.2 dL_act_146
          · replace hT := mx_t hT h_124
            refine lv_iconst (v := (1 : Int32)) hx hb dL_act_141 (by decide) ?_
            refine lv_goto (tgt := 146) hx hb dL_act_142 (by decide) ?_
            cases hT
            exact W.zret (v := (1 : Int32)) hx hb hr rfl (fun t ht hW => mx_end Z t ht _) Z.2.2.2 dL_act_146
      · replace hT := mx_t hT h_109
        refine lv_sipush (v := (1000 : Int32)) hx hb dL_act_101 (by decide) ?_
        refine lv_goto (tgt := 110) hx hb dL_act_104 (by decide) ?_
        obtain ⟨q_125, h_q_125, hT⟩ := mx_bind hT
        refine mx_callS (As := [.int (x2), .int ((1000 : Int32))]) (rest := [.int ((1 : Int32))]) (st1 := [.int (q_125), .int ((1 : Int32))]) X Z hl.1 (mL_at l E hJ _ _ _ _ h_q_125) wd_17_3 wd_17_4 wd_10_7 wd_17_5 hdL_at ⟨Nat.le_trans (by decide) hR.1, Nat.le_trans (by decide) hR.2⟩ ⟨Nat.zero_le _, Nat.zero_le _⟩ (Nat.le_of_ble_eq_true rfl) rfl rfl dL_act_110 (fun H locs Z => ?_)
        refine lv_iadd hx hb dL_act_113 ?_
        obtain ⟨v_126, e_v_126, hT⟩ := mx_nm hT
        refine mx_tops (congrArg (fun z => (.int (z) :: [] : List Value)) e_v_126) ?_
        refine lv_istore (lv' := [(7, .int (v_126)), (0, .ref (mad E (240))), (1, .int (x1)), (2, .int (x2)), (3, .int (x3)), (4, .ref (mad E (a4))), (5, .ref (mad E (a5))), (6, .ref (mad E (a6)))]) hx hb dL_act_114 hl (by decide) rfl (fun ls hl => ?_)
        refine lv_aload hx hb dL_act_116 (lv_at hl 5 rfl) ?_
        refine lv_bipush (v := (6 : Int32)) hx hb dL_act_118 (by decide) ?_
        obtain ⟨h_127, hT⟩ := mx_chk hT
        refine mx_iald X Z ha4 h_127 dL_act_120 ?_
        refine mx_tops (s2 := [.int (G a4 (((6 : Int32)).toNatClampNeg))]) rfl ?_
        refine lv_iload hx hb dL_act_121 (lv_at hl 0 rfl) ?_
        refine lv_iadd hx hb dL_act_123 ?_
        refine lv_sipush (v := (5000 : Int32)) hx hb dL_act_124 (by decide) ?_
        refine lv_icmp_le (tgt := 147) hx hb dL_act_127 (by decide) (fun h_128 => ?_) (fun h_128 => ?_)
        · replace hT := mx_t hT h_128
          refine lv_aload hx hb dL_act_147 (lv_at hl 5 rfl) ?_
          refine lv_iconst (v := (5 : Int32)) hx hb dL_act_149 (by decide) ?_
          refine lv_dup2_11 hx hb dL_act_150 rfl rfl ?_
          obtain ⟨h_129, hT⟩ := mx_chk hT
          refine mx_iald X Z ha4 h_129 dL_act_151 ?_
          refine mx_tops (s2 := [.int (G a4 (((5 : Int32)).toNatClampNeg)), .int ((5 : Int32)), .ref (mad E (a4))]) rfl ?_
          refine lv_iload hx hb dL_act_152 (lv_at hl 0 rfl) ?_
          refine lv_iadd hx hb dL_act_154 ?_
          obtain ⟨h_130, hT⟩ := mx_chk hT
          obtain ⟨G_131, e_G_131, hT⟩ := mx_nm hT
          refine mx_iast X Z ha4 h_130 dL_act_155 (fun H locs Z => ?_)
          replace Z : mZ E s.heap H locs (up2 G a4 (((5 : Int32)).toNatClampNeg) ((G a4 (((5 : Int32)).toNatClampNeg)) + v_126)) := Z
          rw [e_G_131] at Z
          refine lv_aload hx hb dL_act_156 (lv_at hl 5 rfl) ?_
          refine lv_bipush (v := (6 : Int32)) hx hb dL_act_158 (by decide) ?_
          refine lv_dup2_11 hx hb dL_act_160 rfl rfl ?_
          obtain ⟨h_132, hT⟩ := mx_chk hT
          refine mx_iald X Z ha4 h_132 dL_act_161 ?_
          refine mx_tops (s2 := [.int (G_131 a4 (((6 : Int32)).toNatClampNeg)), .int ((6 : Int32)), .ref (mad E (a4))]) rfl ?_
          refine lv_iload hx hb dL_act_162 (lv_at hl 0 rfl) ?_
          refine lv_iadd hx hb dL_act_164 ?_
          obtain ⟨h_133, hT⟩ := mx_chk hT
          obtain ⟨G_134, e_G_134, hT⟩ := mx_nm hT
          refine mx_iast X Z ha4 h_133 dL_act_165 (fun H locs Z => ?_)
          replace Z : mZ E s.heap H locs (up2 G_131 a4 (((6 : Int32)).toNatClampNeg) ((G_131 a4 (((6 : Int32)).toNatClampNeg)) + v_126)) := Z
          rw [e_G_134] at Z
          refine lv_aload_n hx hb dL_act_166 rfl (lv_at hl 1 rfl) ?_
          refine lv_iload hx hb dL_act_167 (lv_at hl 0 rfl) ?_
          obtain ⟨q_135, h_q_135, hT⟩ := mx_bind hT
          refine mx_callV (As := [.int (v_126)]) (rest := []) (st1 := [.int (q_135.1)]) (C := RX5) (T := TX5) (N := 6) (ci := 5) X Z hl.1 (c5_dig l E hJ hd0 _ _ _ h_q_135) wd_19_23 wd_20_0 wd_20_1 wd_1_2 wd_20_2 hd5_dig ⟨Nat.le_trans (by decide) hR.1, Nat.le_trans (by decide) hR.2⟩ ⟨Nat.zero_le _, Nat.zero_le _⟩ hd0.i (hd0.c _) rfl (Nat.le_of_ble_eq_true rfl) rfl rfl dL_act_169 (fun H locs Z => ?_)
          refine lv_aload hx hb dL_act_172 (lv_at hl 5 rfl) ?_
          refine lv_bipush (v := (6 : Int32)) hx hb dL_act_174 (by decide) ?_
          obtain ⟨h_136, hT⟩ := mx_chk hT
          refine mx_iald X Z ha4 h_136 dL_act_176 ?_
          refine mx_tops (s2 := [.int (q_135.2 a4 (((6 : Int32)).toNatClampNeg)), .int (q_135.1)]) rfl ?_
          refine lv_icmp_ne (tgt := 184) hx hb dL_act_177 (by decide) (fun h_137 => ?_) (fun h_137 => ?_)
          · replace hT := mx_f hT h_137
            refine lv_iconst (v := (0 : Int32)) hx hb dL_act_184 (by decide) ?_
            cases hT
            exact W.zret (v := (0 : Int32)) hx hb hr rfl (fun t ht hW => mx_end Z t ht _) Z.2.2.2 dL_act_185
          · replace hT := mx_t hT h_137
            refine lv_iconst (v := (1 : Int32)) hx hb dL_act_180 (by decide) ?_
            refine lv_goto (tgt := 185) hx hb dL_act_181 (by decide) ?_
            cases hT
            exact W.zret (v := (1 : Int32)) hx hb hr rfl (fun t ht hW => mx_end Z t ht _) Z.2.2.2 dL_act_185
        · replace hT := mx_f hT h_128
          refine lv_aload_n hx hb dL_act_130 rfl (lv_at hl 1 rfl) ?_
          refine lv_iload hx hb dL_act_131 (lv_at hl 0 rfl) ?_
          obtain ⟨q_138, h_q_138, hT⟩ := mx_bind hT
          refine mx_callV (As := [.int (v_126)]) (rest := []) (st1 := [.int (q_138.1)]) (C := RX5) (T := TX5) (N := 6) (ci := 5) X Z hl.1 (c5_dig l E hJ hd0 _ _ _ h_q_138) wd_19_23 wd_20_0 wd_20_1 wd_1_2 wd_20_2 hd5_dig ⟨Nat.le_trans (by decide) hR.1, Nat.le_trans (by decide) hR.2⟩ ⟨Nat.zero_le _, Nat.zero_le _⟩ hd0.i (hd0.c _) rfl (Nat.le_of_ble_eq_true rfl) rfl rfl dL_act_133 (fun H locs Z => ?_)
          refine lv_bipush (v := (-4 : Int32)) hx hb dL_act_136 (by decide) ?_
          refine lv_icmp_ne (tgt := 145) hx hb dL_act_138 (by decide) (fun h_139 => ?_) (fun h_139 => ?_)
          · replace hT := mx_f hT h_139
            refine lv_iconst (v := (0 : Int32)) hx hb dL_act_145 (by decide) ?_
            cases hT
            exact W.zret (v := (0 : Int32)) hx hb hr rfl (fun t ht hW => mx_end Z t ht _) Z.2.2.2 dL_act_146
          · replace hT := mx_t hT h_139
            refine lv_iconst (v := (1 : Int32)) hx hb dL_act_141 (by decide) ?_
            refine lv_goto (tgt := 146) hx hb dL_act_142 (by decide) ?_
            cases hT
            exact W.zret (v := (1 : Int32)) hx hb hr rfl (fun t ht hW => mx_end Z t ht _) Z.2.2.2 dL_act_146
  · replace hT := mx_f hT h_1
    refine lv_iconst (v := (1 : Int32)) hx hb dL_act_6 (by decide) ?_
    refine lv_iload_n hx hb dL_act_7 rfl (lv_at hl 2 rfl) ?_
    refine lv_iload_n hx hb dL_act_8 rfl (lv_at hl 3 rfl) ?_
    refine lv_iconst (v := (4 : Int32)) hx hb dL_act_9 (by decide) ?_
    obtain ⟨q_140, h_q_140, hT⟩ := mx_bind hT
    refine mx_callS (As := [.int (x3), .int ((4 : Int32))]) (rest := [.int (x2), .int ((1 : Int32))]) (st1 := [.int (q_140), .int (x2), .int ((1 : Int32))]) X Z hl.1 (mL_at l E hJ _ _ _ _ h_q_140) wd_17_3 wd_17_4 wd_10_7 wd_17_5 hdL_at ⟨Nat.le_trans (by decide) hR.1, Nat.le_trans (by decide) hR.2⟩ ⟨Nat.zero_le _, Nat.zero_le _⟩ (Nat.le_of_ble_eq_true rfl) rfl rfl dL_act_10 (fun H locs Z => ?_)
    refine lv_if_ne (tgt := 22) hx hb dL_act_13 (by decide) (fun h_141 => ?_) (fun h_141 => ?_)
    · replace hT := mx_f hT h_141
      refine lv_bipush (v := (30 : Int32)) hx hb dL_act_22 (by decide) ?_
      obtain ⟨q_142, h_q_142, hT⟩ := mx_bind hT
      refine mx_callS (As := [.int (x2), .int ((30 : Int32))]) (rest := [.int ((1 : Int32))]) (st1 := [.int (q_142), .int ((1 : Int32))]) X Z hl.1 (mL_at l E hJ _ _ _ _ h_q_142) wd_17_3 wd_17_4 wd_10_7 wd_17_5 hdL_at ⟨Nat.le_trans (by decide) hR.1, Nat.le_trans (by decide) hR.2⟩ ⟨Nat.zero_le _, Nat.zero_le _⟩ (Nat.le_of_ble_eq_true rfl) rfl rfl dL_act_24 (fun H locs Z => ?_)
      refine lv_iadd hx hb dL_act_27 ?_
      obtain ⟨v_143, e_v_143, hT⟩ := mx_nm hT
      refine mx_tops (congrArg (fun z => (.int (z) :: [] : List Value)) e_v_143) ?_
      refine lv_istore (lv' := [(7, .int (v_143)), (0, .ref (mad E (240))), (1, .int (x1)), (2, .int (x2)), (3, .int (x3)), (4, .ref (mad E (a4))), (5, .ref (mad E (a5))), (6, .ref (mad E (a6)))]) hx hb dL_act_28 hl (by decide) rfl (fun ls hl => ?_)
      refine lv_aload hx hb dL_act_30 (lv_at hl 5 rfl) ?_
      refine lv_bipush (v := (7 : Int32)) hx hb dL_act_32 (by decide) ?_
      obtain ⟨h_144, hT⟩ := mx_chk hT
      refine mx_iald X Z ha4 h_144 dL_act_34 ?_
      refine mx_tops (s2 := [.int (G a4 (((7 : Int32)).toNatClampNeg))]) rfl ?_
      obtain ⟨v_145, e_v_145, hT⟩ := mx_nm hT
      refine mx_tops (congrArg (fun z => (.int (z) :: [] : List Value)) e_v_145) ?_
      refine lv_istore (lv' := [(8, .int (v_145)), (7, .int (v_143)), (0, .ref (mad E (240))), (1, .int (x1)), (2, .int (x2)), (3, .int (x3)), (4, .ref (mad E (a4))), (5, .ref (mad E (a5))), (6, .ref (mad E (a6)))]) hx hb dL_act_35 hl (by decide) rfl (fun ls hl => ?_)
      refine lv_iconst (v := (0 : Int32)) hx hb dL_act_37 (by decide) ?_
      refine lv_istore (lv' := [(9, .int ((0 : Int32))), (8, .int (v_145)), (7, .int (v_143)), (0, .ref (mad E (240))), (1, .int (x1)), (2, .int (x2)), (3, .int (x3)), (4, .ref (mad E (a4))), (5, .ref (mad E (a5))), (6, .ref (mad E (a6)))]) hx hb dL_act_38 hl (by decide) rfl (fun ls hl => ?_)
      obtain ⟨q_149, h_q_149, hT⟩ := mx_bind hT
      refine kL_act_40 X hR hJ hd0 ha4 ha5 ha6 _ _ _ _ _ _ _ _ _ h_q_149 Z (lv_sub (l' := [(0, .ref (mad E (240))), (4, .ref (mad E (a4))), (5, .ref (mad E (a5))), (6, .ref (mad E (a6))), (7, .int (v_143)), (8, .int (v_145)), (9, .int ((0 : Int32)))]) hl [3, 7, 8, 9, 2, 1, 0] rfl) (fun H locs ls Z hl => ?_)
      · refine lv_aload_n hx hb dL_act_62 rfl (lv_at hl 0 rfl) ?_
        refine lv_iload hx hb dL_act_63 (lv_at hl 4 rfl) ?_
        obtain ⟨q_150, h_q_150, hT⟩ := mx_bind hT
        refine mx_callV (As := [.int (v_143)]) (rest := []) (st1 := [.int (q_150.1)]) (C := RX5) (T := TX5) (N := 6) (ci := 5) X Z hl.1 (c5_run l E hJ hd0 _ _ _ h_q_150) wd_17_15 wd_17_16 wd_17_17 wd_1_2 wd_17_18 hd5_run ⟨Nat.le_trans (by decide) hR.1, Nat.le_trans (by decide) hR.2⟩ ⟨Nat.zero_le _, Nat.zero_le _⟩ hd0.i (hd0.c _) rfl (Nat.le_of_ble_eq_true rfl) rfl rfl dL_act_65 (fun H locs Z => ?_)
        refine lv_aload hx hb dL_act_68 (lv_at hl 1 rfl) ?_
        refine lv_bipush (v := (7 : Int32)) hx hb dL_act_70 (by decide) ?_
        obtain ⟨h_151, hT⟩ := mx_chk hT
        refine mx_iald X Z ha4 h_151 dL_act_72 ?_
        refine mx_tops (s2 := [.int (q_150.2 a4 (((7 : Int32)).toNatClampNeg)), .int (q_150.1)]) rfl ?_
        refine lv_iload hx hb dL_act_73 (lv_at hl 5 rfl) ?_
        refine lv_isub hx hb dL_act_75 ?_
        refine lv_icmp_ne (tgt := 83) hx hb dL_act_76 (by decide) (fun h_152 => ?_) (fun h_152 => ?_)
        · replace hT := mx_f hT h_152
          refine lv_iconst (v := (0 : Int32)) hx hb dL_act_83 (by decide) ?_
          cases hT
          exact W.zret (v := (0 : Int32)) hx hb hr rfl (fun t ht hW => mx_end Z t ht _) Z.2.2.2 dL_act_84
        · replace hT := mx_t hT h_152
          refine lv_iconst (v := (1 : Int32)) hx hb dL_act_79 (by decide) ?_
          refine lv_goto (tgt := 84) hx hb dL_act_80 (by decide) ?_
          cases hT
          exact W.zret (v := (1 : Int32)) hx hb hr rfl (fun t ht hW => mx_end Z t ht _) Z.2.2.2 dL_act_84
    · replace hT := mx_t hT h_141
      refine lv_sipush (v := (200 : Int32)) hx hb dL_act_16 (by decide) ?_
      refine lv_goto (tgt := 24) hx hb dL_act_19 (by decide) ?_
      obtain ⟨q_153, h_q_153, hT⟩ := mx_bind hT
      refine mx_callS (As := [.int (x2), .int ((200 : Int32))]) (rest := [.int ((1 : Int32))]) (st1 := [.int (q_153), .int ((1 : Int32))]) X Z hl.1 (mL_at l E hJ _ _ _ _ h_q_153) wd_17_3 wd_17_4 wd_10_7 wd_17_5 hdL_at ⟨Nat.le_trans (by decide) hR.1, Nat.le_trans (by decide) hR.2⟩ ⟨Nat.zero_le _, Nat.zero_le _⟩ (Nat.le_of_ble_eq_true rfl) rfl rfl dL_act_24 (fun H locs Z => ?_)
      refine lv_iadd hx hb dL_act_27 ?_
      obtain ⟨v_154, e_v_154, hT⟩ := mx_nm hT
      refine mx_tops (congrArg (fun z => (.int (z) :: [] : List Value)) e_v_154) ?_
      refine lv_istore (lv' := [(7, .int (v_154)), (0, .ref (mad E (240))), (1, .int (x1)), (2, .int (x2)), (3, .int (x3)), (4, .ref (mad E (a4))), (5, .ref (mad E (a5))), (6, .ref (mad E (a6)))]) hx hb dL_act_28 hl (by decide) rfl (fun ls hl => ?_)
      refine lv_aload hx hb dL_act_30 (lv_at hl 5 rfl) ?_
      refine lv_bipush (v := (7 : Int32)) hx hb dL_act_32 (by decide) ?_
      obtain ⟨h_155, hT⟩ := mx_chk hT
      refine mx_iald X Z ha4 h_155 dL_act_34 ?_
      refine mx_tops (s2 := [.int (G a4 (((7 : Int32)).toNatClampNeg))]) rfl ?_
      obtain ⟨v_156, e_v_156, hT⟩ := mx_nm hT
      refine mx_tops (congrArg (fun z => (.int (z) :: [] : List Value)) e_v_156) ?_
      refine lv_istore (lv' := [(8, .int (v_156)), (7, .int (v_154)), (0, .ref (mad E (240))), (1, .int (x1)), (2, .int (x2)), (3, .int (x3)), (4, .ref (mad E (a4))), (5, .ref (mad E (a5))), (6, .ref (mad E (a6)))]) hx hb dL_act_35 hl (by decide) rfl (fun ls hl => ?_)
      refine lv_iconst (v := (0 : Int32)) hx hb dL_act_37 (by decide) ?_
      refine lv_istore (lv' := [(9, .int ((0 : Int32))), (8, .int (v_156)), (7, .int (v_154)), (0, .ref (mad E (240))), (1, .int (x1)), (2, .int (x2)), (3, .int (x3)), (4, .ref (mad E (a4))), (5, .ref (mad E (a5))), (6, .ref (mad E (a6)))]) hx hb dL_act_38 hl (by decide) rfl (fun ls hl => ?_)
      obtain ⟨q_157, h_q_157, hT⟩ := mx_bind hT
      refine kL_act_40 X hR hJ hd0 ha4 ha5 ha6 _ _ _ _ _ _ _ _ _ h_q_157 Z (lv_sub (l' := [(0, .ref (mad E (240))), (4, .ref (mad E (a4))), (5, .ref (mad E (a5))), (6, .ref (mad E (a6))), (7, .int (v_154)), (8, .int (v_156)), (9, .int ((0 : Int32)))]) hl [3, 7, 8, 9, 2, 1, 0] rfl) (fun H locs ls Z hl => ?_)
      · refine lv_aload_n hx hb dL_act_62 rfl (lv_at hl 0 rfl) ?_
        refine lv_iload hx hb dL_act_63 (lv_at hl 4 rfl) ?_
        obtain ⟨q_158, h_q_158, hT⟩ := mx_bind hT
        refine mx_callV (As := [.int (v_154)]) (rest := []) (st1 := [.int (q_158.1)]) (C := RX5) (T := TX5) (N := 6) (ci := 5) X Z hl.1 (c5_run l E hJ hd0 _ _ _ h_q_158) wd_17_15 wd_17_16 wd_17_17 wd_1_2 wd_17_18 hd5_run ⟨Nat.le_trans (by decide) hR.1, Nat.le_trans (by decide) hR.2⟩ ⟨Nat.zero_le _, Nat.zero_le _⟩ hd0.i (hd0.c _) rfl (Nat.le_of_ble_eq_true rfl) rfl rfl dL_act_65 (fun H locs Z => ?_)
        refine lv_aload hx hb dL_act_68 (lv_at hl 1 rfl) ?_
        refine lv_bipush (v := (7 : Int32)) hx hb dL_act_70 (by decide) ?_
        obtain ⟨h_159, hT⟩ := mx_chk hT
        refine mx_iald X Z ha4 h_159 dL_act_72 ?_
        refine mx_tops (s2 := [.int (q_158.2 a4 (((7 : Int32)).toNatClampNeg)), .int (q_158.1)]) rfl ?_
        refine lv_iload hx hb dL_act_73 (lv_at hl 5 rfl) ?_
        refine lv_isub hx hb dL_act_75 ?_
        refine lv_icmp_ne (tgt := 83) hx hb dL_act_76 (by decide) (fun h_160 => ?_) (fun h_160 => ?_)
        · replace hT := mx_f hT h_160
          refine lv_iconst (v := (0 : Int32)) hx hb dL_act_83 (by decide) ?_
          cases hT
          exact W.zret (v := (0 : Int32)) hx hb hr rfl (fun t ht hW => mx_end Z t ht _) Z.2.2.2 dL_act_84
        · replace hT := mx_t hT h_160
          refine lv_iconst (v := (1 : Int32)) hx hb dL_act_79 (by decide) ?_
          refine lv_goto (tgt := 84) hx hb dL_act_80 (by decide) ?_
          cases hT
          exact W.zret (v := (1 : Int32)) hx hb hr rfl (fun t ht hW => mx_end Z t ht _) Z.2.2.2 dL_act_84
