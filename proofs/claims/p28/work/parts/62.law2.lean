/-! PeatRailwayLaw.told -/
def xL_told_L30 (y1 : Nat) (n1 : Nat) (y2 : Nat) (n2 : Nat) (y3 : Nat) (n3 : Nat) (y4 : Int32) (y5 : Int32) (y6 : Int32) (y7 : Int32) : Nat → Int32 → mM → Option (Int32)
  | 0, _, _ => none
  | n + 1, w8, G =>
    mCk (mIn ((3 : Int32)) n1) <|
    mCk (mIn ((2 : Int32)) n1) <|
    if (y7 - (w8 * (G y1 (((3 : Int32)).toNatClampNeg)))) ≤ (G y1 (((2 : Int32)).toNatClampNeg)) then
      some (w8)
    else
      mNm (w8 + (1 : Int32)) fun v_8 =>
      xL_told_L30 y1 n1 y2 n2 y3 n3 y4 y5 y6 y7 n v_8 G
def xL_told_L9 (y1 : Nat) (n1 : Nat) (y2 : Nat) (n2 : Nat) (y3 : Nat) (n3 : Nat) : Nat → Int32 → Int32 → Int32 → mM → Option (Nat × Int32 × Int32)
  | 0, _, _, _, _ => none
  | n + 1, w4, w5, w6, G =>
    mCk (mIn ((0 : Int32)) n1) <|
    if (G y1 (((0 : Int32)).toNatClampNeg)) ≤ w6 then
      some (0, w4, w5)
    else
      mCk (mIn ((((3 : Int32)) * w6) + ((2 : Int32))) n2) <|
      mNm (G y2 (((((3 : Int32)) * w6) + ((2 : Int32))).toNatClampNeg)) fun v_4 =>
      (xL_told_L30 y1 n1 y2 n2 y3 n3 w4 w5 w6 v_4 mFu ((0 : Int32)) G).bind fun q_9 =>
      mNm (w4 + v_4) fun v_10 =>
      mCk (mIn ((2 : Int32)) n1) <|
      if v_4 ≤ (G y1 (((2 : Int32)).toNatClampNeg)) then
        mNm (w5 ||| ((0 : Int32))) fun v_13 =>
        (x5_segment w6 ((0 : Int32)) G).bind fun q_14 =>
        mCk (mIn (((3 : Int32)) * w6) n2) <|
        if q_14 = (G y2 ((((3 : Int32)) * w6).toNatClampNeg)) then
          (x5_segment w6 ((1 : Int32)) G).bind fun q_17 =>
          (xL_passing w6 y1 n1 y2 n2 G).bind fun q_18 =>
          if q_18 = 0 then
            if q_17 = ((0 : Int32)) then
              (x5_segment w6 ((2 : Int32)) G).bind fun q_21 =>
              if q_21 = v_4 then
                (x5_segment w6 ((3 : Int32)) G).bind fun q_23 =>
                (xL_many w6 y1 n1 y3 n3 G).bind fun q_24 =>
                if q_23 = q_24 then
                  (x5_segment w6 ((4 : Int32)) G).bind fun q_26 =>
                  (xL_there w6 y1 n1 y3 n3 G).bind fun q_27 =>
                  if q_26 = (q_27 / ((10000 : Int32))) then
                    (x5_segment w6 ((5 : Int32)) G).bind fun q_29 =>
                    (xL_room w6 y1 n1 y2 n2 G).bind fun q_30 =>
                    (xL_many w6 y1 n1 y3 n3 G).bind fun q_31 =>
                    if q_29 = (q_30 - q_31) then
                      (x5_segment w6 ((6 : Int32)) G).bind fun q_33 =>
                      if q_33 = q_9 then
                        mNm (w6 + (1 : Int32)) fun v_35 =>
                        xL_told_L9 y1 n1 y2 n2 y3 n3 n v_10 v_13 v_35 G
                      else
                        some (1, 0, 0)
                    else
                      some (1, 0, 0)
                  else
                    some (1, 0, 0)
                else
                  some (1, 0, 0)
              else
                some (1, 0, 0)
            else
              some (1, 0, 0)
          else
            if q_17 = ((1 : Int32)) then
              (x5_segment w6 ((2 : Int32)) G).bind fun q_37 =>
              if q_37 = v_4 then
                (x5_segment w6 ((3 : Int32)) G).bind fun q_39 =>
                (xL_many w6 y1 n1 y3 n3 G).bind fun q_40 =>
                if q_39 = q_40 then
                  (x5_segment w6 ((4 : Int32)) G).bind fun q_42 =>
                  (xL_there w6 y1 n1 y3 n3 G).bind fun q_43 =>
                  if q_42 = (q_43 / ((10000 : Int32))) then
                    (x5_segment w6 ((5 : Int32)) G).bind fun q_45 =>
                    (xL_room w6 y1 n1 y2 n2 G).bind fun q_46 =>
                    (xL_many w6 y1 n1 y3 n3 G).bind fun q_47 =>
                    if q_45 = (q_46 - q_47) then
                      (x5_segment w6 ((6 : Int32)) G).bind fun q_49 =>
                      if q_49 = q_9 then
                        mNm (w6 + (1 : Int32)) fun v_51 =>
                        xL_told_L9 y1 n1 y2 n2 y3 n3 n v_10 v_13 v_51 G
                      else
                        some (1, 0, 0)
                    else
                      some (1, 0, 0)
                  else
                    some (1, 0, 0)
                else
                  some (1, 0, 0)
              else
                some (1, 0, 0)
            else
              some (1, 0, 0)
        else
          some (1, 0, 0)
      else
        mNm (w5 ||| (((1 : Int32)) <<< (w6 &&& 31))) fun v_52 =>
        (x5_segment w6 ((0 : Int32)) G).bind fun q_53 =>
        mCk (mIn (((3 : Int32)) * w6) n2) <|
        if q_53 = (G y2 ((((3 : Int32)) * w6).toNatClampNeg)) then
          (x5_segment w6 ((1 : Int32)) G).bind fun q_56 =>
          (xL_passing w6 y1 n1 y2 n2 G).bind fun q_57 =>
          if q_57 = 0 then
            if q_56 = ((0 : Int32)) then
              (x5_segment w6 ((2 : Int32)) G).bind fun q_60 =>
              if q_60 = v_4 then
                (x5_segment w6 ((3 : Int32)) G).bind fun q_62 =>
                (xL_many w6 y1 n1 y3 n3 G).bind fun q_63 =>
                if q_62 = q_63 then
                  (x5_segment w6 ((4 : Int32)) G).bind fun q_65 =>
                  (xL_there w6 y1 n1 y3 n3 G).bind fun q_66 =>
                  if q_65 = (q_66 / ((10000 : Int32))) then
                    (x5_segment w6 ((5 : Int32)) G).bind fun q_68 =>
                    (xL_room w6 y1 n1 y2 n2 G).bind fun q_69 =>
                    (xL_many w6 y1 n1 y3 n3 G).bind fun q_70 =>
                    if q_68 = (q_69 - q_70) then
                      (x5_segment w6 ((6 : Int32)) G).bind fun q_72 =>
                      if q_72 = q_9 then
                        mNm (w6 + (1 : Int32)) fun v_74 =>
                        xL_told_L9 y1 n1 y2 n2 y3 n3 n v_10 v_52 v_74 G
                      else
                        some (1, 0, 0)
                    else
                      some (1, 0, 0)
                  else
                    some (1, 0, 0)
                else
                  some (1, 0, 0)
              else
                some (1, 0, 0)
            else
              some (1, 0, 0)
          else
            if q_56 = ((1 : Int32)) then
              (x5_segment w6 ((2 : Int32)) G).bind fun q_76 =>
              if q_76 = v_4 then
                (x5_segment w6 ((3 : Int32)) G).bind fun q_78 =>
                (xL_many w6 y1 n1 y3 n3 G).bind fun q_79 =>
                if q_78 = q_79 then
                  (x5_segment w6 ((4 : Int32)) G).bind fun q_81 =>
                  (xL_there w6 y1 n1 y3 n3 G).bind fun q_82 =>
                  if q_81 = (q_82 / ((10000 : Int32))) then
                    (x5_segment w6 ((5 : Int32)) G).bind fun q_84 =>
                    (xL_room w6 y1 n1 y2 n2 G).bind fun q_85 =>
                    (xL_many w6 y1 n1 y3 n3 G).bind fun q_86 =>
                    if q_84 = (q_85 - q_86) then
                      (x5_segment w6 ((6 : Int32)) G).bind fun q_88 =>
                      if q_88 = q_9 then
                        mNm (w6 + (1 : Int32)) fun v_90 =>
                        xL_told_L9 y1 n1 y2 n2 y3 n3 n v_10 v_52 v_90 G
                      else
                        some (1, 0, 0)
                    else
                      some (1, 0, 0)
                  else
                    some (1, 0, 0)
                else
                  some (1, 0, 0)
              else
                some (1, 0, 0)
            else
              some (1, 0, 0)
        else
          some (1, 0, 0)
def xL_told_L230 (y1 : Nat) (n1 : Nat) (y2 : Nat) (n2 : Nat) (y3 : Nat) (n3 : Nat) (y4 : Int32) (y5 : Int32) (y6 : Int32) : Nat → Int32 → mM → Option (Nat)
  | 0, _, _ => none
  | n + 1, w7, G =>
    if ((9 : Int32)) ≤ w7 then
      some (0)
    else
      (x5_train y6 w7 G).bind fun q_95 =>
      mCk (mIn ((((10 : Int32)) * y6) + w7) n3) <|
      if q_95 = (G y3 (((((10 : Int32)) * y6) + w7).toNatClampNeg)) then
        mNm (w7 + (1 : Int32)) fun v_98 =>
        xL_told_L230 y1 n1 y2 n2 y3 n3 y4 y5 y6 n v_98 G
      else
        some (1)
def xL_told_L219 (y1 : Nat) (n1 : Nat) (y2 : Nat) (n2 : Nat) (y3 : Nat) (n3 : Nat) (y4 : Int32) (y5 : Int32) : Nat → Int32 → mM → Option (Nat)
  | 0, _, _ => none
  | n + 1, w6, G =>
    mCk (mIn ((1 : Int32)) n1) <|
    if (G y1 (((1 : Int32)).toNatClampNeg)) ≤ w6 then
      some (0)
    else
      (xL_told_L230 y1 n1 y2 n2 y3 n3 y4 y5 w6 mFu ((0 : Int32)) G).bind fun q_99 =>
      if q_99 = 0 then
        (x5_train w6 ((9 : Int32)) G).bind fun q_100 =>
        (xL_weight w6 y3 n3 G).bind fun q_101 =>
        if q_100 = q_101 then
          (x5_why w6 G).bind fun q_103 =>
          (xL_why w6 y1 n1 y2 n2 y3 n3 G).bind fun q_104 =>
          if q_103 = q_104 then
            mNm (w6 + (1 : Int32)) fun v_106 =>
            xL_told_L219 y1 n1 y2 n2 y3 n3 y4 y5 n v_106 G
          else
            some (2)
        else
          some (2)
      else
        some (1)
def xL_told_L311 (y1 : Nat) (n1 : Nat) (y2 : Nat) (n2 : Nat) (y3 : Nat) (n3 : Nat) (y4 : Int32) (y5 : Int32) : Nat → Int32 → mM → Option (Nat)
  | 0, _, _ => none
  | n + 1, w6, G =>
    if ((3 : Int32)) ≤ w6 then
      some (0)
    else
      (x5_setting w6 G).bind fun q_109 =>
      mCk (mIn (((2 : Int32)) + w6) n1) <|
      if q_109 = (G y1 ((((2 : Int32)) + w6).toNatClampNeg)) then
        mNm (w6 + (1 : Int32)) fun v_112 =>
        xL_told_L311 y1 n1 y2 n2 y3 n3 y4 y5 n v_112 G
      else
        some (1)
def xL_told (a1 : Nat) (n1 : Nat) (a2 : Nat) (n2 : Nat) (a3 : Nat) (n3 : Nat) (G : mM) : Option Int32 :=
  (xL_told_L9 a1 n1 a2 n2 a3 n3 mFu ((0 : Int32)) ((0 : Int32)) ((0 : Int32)) G).bind fun q_91 =>
  if q_91.1 = 0 then
    (xL_told_L219 a1 n1 a2 n2 a3 n3 q_91.2.1 q_91.2.2 mFu ((0 : Int32)) G).bind fun q_107 =>
    if q_107 = 0 then
      (xL_told_L311 a1 n1 a2 n2 a3 n3 q_91.2.1 q_91.2.2 mFu ((0 : Int32)) G).bind fun q_113 =>
      if q_113 = 0 then
        (x5_account ((0 : Int32)) G).bind fun q_114 =>
        mCk (mIn ((5 : Int32)) n1) <|
        if q_114 = (G a1 (((5 : Int32)).toNatClampNeg)) then
          (x5_account ((1 : Int32)) G).bind fun q_117 =>
          mCk (mIn ((6 : Int32)) n1) <|
          if q_117 = (G a1 (((6 : Int32)).toNatClampNeg)) then
            (x5_account ((2 : Int32)) G).bind fun q_120 =>
            (xL_sum ((2 : Int32)) a1 n1 a3 n3 G).bind fun q_121 =>
            if q_120 = q_121 then
              (x5_account ((3 : Int32)) G).bind fun q_123 =>
              mCk (mIn ((7 : Int32)) n1) <|
              if q_123 = (G a1 (((7 : Int32)).toNatClampNeg)) then
                (x5_account ((4 : Int32)) G).bind fun q_126 =>
                mCk (mIn ((8 : Int32)) n1) <|
                if q_126 = (G a1 (((8 : Int32)).toNatClampNeg)) then
                  mCk (mIn ((5 : Int32)) n1) <|
                  mCk (mIn ((6 : Int32)) n1) <|
                  (xL_sum ((2 : Int32)) a1 n1 a3 n3 G).bind fun q_131 =>
                  mCk (mIn ((7 : Int32)) n1) <|
                  mCk (mIn ((8 : Int32)) n1) <|
                  if (G a1 (((5 : Int32)).toNatClampNeg)) = ((((G a1 (((6 : Int32)).toNatClampNeg)) + q_131) + (G a1 (((7 : Int32)).toNatClampNeg))) + (G a1 (((8 : Int32)).toNatClampNeg))) then
                    (x5_count ((0 : Int32)) G).bind fun q_135 =>
                    mCk (mIn ((0 : Int32)) n1) <|
                    if q_135 = (G a1 (((0 : Int32)).toNatClampNeg)) then
                      (x5_count ((1 : Int32)) G).bind fun q_138 =>
                      mCk (mIn ((1 : Int32)) n1) <|
                      if q_138 = (G a1 (((1 : Int32)).toNatClampNeg)) then
                        (x5_count ((2 : Int32)) G).bind fun q_141 =>
                        mCk (mIn ((9 : Int32)) n1) <|
                        if q_141 = (G a1 (((9 : Int32)).toNatClampNeg)) then
                          (x5_count ((3 : Int32)) G).bind fun q_144 =>
                          (xL_sunk a1 n1 a2 n2 G).bind fun q_145 =>
                          if q_144 = q_145 then
                            (x5_count ((4 : Int32)) G).bind fun q_147 =>
                            (xL_sum ((7 : Int32)) a1 n1 a3 n3 G).bind fun q_148 =>
                            if q_147 = q_148 then
                              (x5_count ((7 : Int32)) G).bind fun q_150 =>
                              if q_150 = q_91.2.2 then
                                (x5_meanSinking G).bind fun q_152 =>
                                mCk (mNN (FP.dmul FP.dconst1 (FP.i2d q_91.2.1))) <|
                                mCk (mIn ((0 : Int32)) n1) <|
                                mCk (mNN (FP.ddiv (FP.dmul FP.dconst1 (FP.i2d q_91.2.1)) (FP.i2d (G a1 (((0 : Int32)).toNatClampNeg))))) <|
                                if (Op.cmpValue (FP.dcmp q_152 (FP.ddiv (FP.dmul FP.dconst1 (FP.i2d q_91.2.1)) (FP.i2d (G a1 (((0 : Int32)).toNatClampNeg))))) .l) = 0 then
                                  some ((1 : Int32))
                                else
                                  some ((0 : Int32))
                              else
                                some ((0 : Int32))
                            else
                              some ((0 : Int32))
                          else
                            some ((0 : Int32))
                        else
                          some ((0 : Int32))
                      else
                        some ((0 : Int32))
                    else
                      some ((0 : Int32))
                  else
                    some ((0 : Int32))
                else
                  some ((0 : Int32))
              else
                some ((0 : Int32))
            else
              some ((0 : Int32))
          else
            some ((0 : Int32))
        else
          some ((0 : Int32))
      else
        some ((0 : Int32))
    else
      if q_107 = 1 then
        some ((0 : Int32))
      else
        some ((0 : Int32))
  else
    some ((0 : Int32))
theorem hdL_told : yL_told.cls ≠ "java/lang/invoke/MethodHandle" ∧ yL_told.cls ≠ "java/lang/invoke/VarHandle" ∧ (parseMethodDescriptor yL_told.desc).map (fun d => d.parameters.length) = some 4 := by decide +kernel
set_option maxHeartbeats 4000000 in
set_option maxRecDepth 100000 in
theorem kL_told_30 {p : Program} {l : Launch} {e : Env} {R : Room} {s : State} {m : MethodId} {args : Array Value} {below : List Frame} {meth : Method} {cd : Code} {Q : State → Prop} {E : mE} (X : mX p s m args cd cL_told 9 RL E) (hR : 4 ≤ R.frames ∧ 99 ≤ R.locals) (hJ : mJ E) {y1 : Nat} {n1 : Nat} {y2 : Nat} {n2 : Nat} {y3 : Nat} {n3 : Nat} (hy0 : mAl E 240) (hy1 : mAi E y1 1 n1) (hy2 : mAi E y2 1 n2) (hy3 : mAi E y3 1 n3) (y4 : Int32) (y5 : Int32) (y6 : Int32) (y7 : Int32) : ∀ (n : Nat) (w8 : Int32) (G : mM) (H : Heap) (locs : List Loc) (ls : Array Slot) (r : Int32), xL_told_L30 y1 n1 y2 n2 y3 n3 y4 y5 y6 y7 n w8 G = some r → mZ E s.heap H locs G → lv_has ls 9 [(0, .ref (mad E (240))), (1, .ref (mad E (y1))), (2, .ref (mad E (y2))), (3, .ref (mad E (y3))), (4, .int (y4)), (5, .int (y5)), (6, .int (y6)), (7, .int (y7)), (8, .int (w8))] → (∀ (H : Heap) (locs : List Loc) (ls : Array Slot), mZ E s.heap H locs G → lv_has ls 9 [(0, .ref (mad E (240))), (1, .ref (mad E (y1))), (2, .ref (mad E (y2))), (3, .ref (mad E (y3))), (4, .int (y4)), (5, .int (y5)), (6, .int (y6)), (7, .int (y7)), (8, .int (r))] → W p l e R s m args below meth cd H locs 0 0 Q (F0 m 51 ls [])) → W p l e R s m args below meth cd H locs 0 0 Q (F0 m 30 ls []) := by
  have hx := X.1
  have hb := X.2.1
  have hown := X.2.2.2.1
  have hts := X.2.2.2.2.1
  intro n
  induction n with
  | zero =>
    intro w8 G H locs ls r hT
    rw [xL_told_L30] at hT
    cases hT
  | succ n ih =>
    intro w8 G H locs ls r hT Z hl k0
    rw [xL_told_L30] at hT
    refine lv_iload hx hb dL_told_30 (lv_at hl 7 rfl) ?_
    refine lv_iload hx hb dL_told_32 (lv_at hl 8 rfl) ?_
    refine lv_aload_n hx hb dL_told_34 rfl (lv_at hl 1 rfl) ?_
    refine lv_iconst (v := (3 : Int32)) hx hb dL_told_35 (by decide) ?_
    obtain ⟨h_5, hT⟩ := mx_chk hT
    refine mx_iald X Z hy1 h_5 dL_told_36 ?_
    refine mx_tops (s2 := [.int (G y1 (((3 : Int32)).toNatClampNeg)), .int (w8), .int (y7)]) rfl ?_
    refine lv_imul hx hb dL_told_37 ?_
    refine lv_isub hx hb dL_told_38 ?_
    refine lv_aload_n hx hb dL_told_39 rfl (lv_at hl 1 rfl) ?_
    refine lv_iconst (v := (2 : Int32)) hx hb dL_told_40 (by decide) ?_
    obtain ⟨h_6, hT⟩ := mx_chk hT
    refine mx_iald X Z hy1 h_6 dL_told_41 ?_
    refine mx_tops (s2 := [.int (G y1 (((2 : Int32)).toNatClampNeg)), .int (y7 - (w8 * (G y1 (((3 : Int32)).toNatClampNeg))))]) rfl ?_
    refine lv_icmp_le (tgt := 51) hx hb dL_told_42 (by decide) (fun h_7 => ?_) (fun h_7 => ?_)
    · replace hT := mx_t hT h_7
      cases hT
      exact k0 _ _ _ Z (lv_sub hl [0, 1, 2, 3, 4, 5, 6, 7, 8] rfl)
    · replace hT := mx_f hT h_7
      obtain ⟨v_8, e_v_8, hT⟩ := mx_nm hT
      refine lv_iinc (v := v_8) (lv' := [(8, .int (v_8)), (0, .ref (mad E (240))), (1, .ref (mad E (y1))), (2, .ref (mad E (y2))), (3, .ref (mad E (y3))), (4, .int (y4)), (5, .int (y5)), (6, .int (y6)), (7, .int (y7))]) hx hb dL_told_45 hl (k := 8) rfl (by rw [← e_v_8]; rfl) (by decide) rfl (fun ls hl => ?_)
      refine lv_goto (tgt := 30) hx hb dL_told_48 (by decide) ?_
      exact ih _ _ _ _ _ _ hT Z (lv_sub hl [1, 2, 3, 4, 5, 6, 7, 8, 0] rfl) k0
set_option maxHeartbeats 4000000 in
set_option maxRecDepth 100000 in
theorem kL_told_9 {p : Program} {l : Launch} {e : Env} {R : Room} {s : State} {m : MethodId} {args : Array Value} {below : List Frame} {meth : Method} {cd : Code} {Q : State → Prop} {E : mE} (X : mX p s m args cd cL_told 9 RL E) (hR : 4 ≤ R.frames ∧ 99 ≤ R.locals) (hJ : mJ E) {y1 : Nat} {n1 : Nat} {y2 : Nat} {n2 : Nat} {y3 : Nat} {n3 : Nat} (hy0 : mAl E 240) (hy1 : mAi E y1 1 n1) (hy2 : mAi E y2 1 n2) (hy3 : mAi E y3 1 n3) : ∀ (n : Nat) (w4 : Int32) (w5 : Int32) (w6 : Int32) (G : mM) (H : Heap) (locs : List Loc) (ls : Array Slot) (r : Nat × Int32 × Int32), xL_told_L9 y1 n1 y2 n2 y3 n3 n w4 w5 w6 G = some r → mZ E s.heap H locs G → lv_has ls 9 [(0, .ref (mad E (240))), (1, .ref (mad E (y1))), (2, .ref (mad E (y2))), (3, .ref (mad E (y3))), (4, .int (w4)), (5, .int (w5)), (6, .int (w6))] → (r.1 = 0 → ∀ (H : Heap) (locs : List Loc) (ls : Array Slot), mZ E s.heap H locs G → lv_has ls 9 [(0, .ref (mad E (240))), (1, .ref (mad E (y1))), (2, .ref (mad E (y2))), (3, .ref (mad E (y3))), (4, .int (r.2.1)), (5, .int (r.2.2))] → W p l e R s m args below meth cd H locs 0 0 Q (F0 m 216 ls [])) → (r.1 = 1 → ∀ (H : Heap) (locs : List Loc) (ls : Array Slot), mZ E s.heap H locs G → lv_has ls 9 [(0, .ref (mad E (240))), (1, .ref (mad E (y1))), (2, .ref (mad E (y2))), (3, .ref (mad E (y3)))] → W p l e R s m args below meth cd H locs 0 0 Q (F0 m 208 ls [])) → W p l e R s m args below meth cd H locs 0 0 Q (F0 m 9 ls []) := by
  have hx := X.1
  have hb := X.2.1
  have hown := X.2.2.2.1
  have hts := X.2.2.2.2.1
  intro n
  induction n with
  | zero =>
    intro w4 w5 w6 G H locs ls r hT
    rw [xL_told_L9] at hT
    cases hT
  | succ n ih =>
    intro w4 w5 w6 G H locs ls r hT Z hl k0 k1
    rw [xL_told_L9] at hT
    refine lv_iload hx hb dL_told_9 (lv_at hl 6 rfl) ?_
    refine lv_aload_n hx hb dL_told_11 rfl (lv_at hl 1 rfl) ?_
    refine lv_iconst (v := (0 : Int32)) hx hb dL_told_12 (by decide) ?_
    obtain ⟨h_1, hT⟩ := mx_chk hT
    refine mx_iald X Z hy1 h_1 dL_told_13 ?_
    refine mx_tops (s2 := [.int (G y1 (((0 : Int32)).toNatClampNeg)), .int (w6)]) rfl ?_
    refine lv_icmp_ge (tgt := 216) hx hb dL_told_14 (by decide) (fun h_2 => ?_) (fun h_2 => ?_)
    · replace hT := mx_t hT h_2
      cases hT
      exact k0 rfl _ _ _ Z (lv_sub hl [0, 1, 2, 3, 4, 5] rfl)
    · replace hT := mx_f hT h_2
      refine lv_aload_n hx hb dL_told_17 rfl (lv_at hl 2 rfl) ?_
      refine lv_iconst (v := (3 : Int32)) hx hb dL_told_18 (by decide) ?_
      refine lv_iload hx hb dL_told_19 (lv_at hl 6 rfl) ?_
      refine lv_imul hx hb dL_told_21 ?_
      refine lv_iconst (v := (2 : Int32)) hx hb dL_told_22 (by decide) ?_
      refine lv_iadd hx hb dL_told_23 ?_
      obtain ⟨h_3, hT⟩ := mx_chk hT
      refine mx_iald X Z hy2 h_3 dL_told_24 ?_
      obtain ⟨v_4, e_v_4, hT⟩ := mx_nm hT
      refine mx_tops (congrArg (fun z => (.int (z) :: [] : List Value)) e_v_4) ?_
      refine lv_istore (lv' := [(7, .int (v_4)), (0, .ref (mad E (240))), (1, .ref (mad E (y1))), (2, .ref (mad E (y2))), (3, .ref (mad E (y3))), (4, .int (w4)), (5, .int (w5)), (6, .int (w6))]) hx hb dL_told_25 hl (by decide) rfl (fun ls hl => ?_)
      refine lv_iconst (v := (0 : Int32)) hx hb dL_told_27 (by decide) ?_
      refine lv_istore (lv' := [(8, .int ((0 : Int32))), (7, .int (v_4)), (0, .ref (mad E (240))), (1, .ref (mad E (y1))), (2, .ref (mad E (y2))), (3, .ref (mad E (y3))), (4, .int (w4)), (5, .int (w5)), (6, .int (w6))]) hx hb dL_told_28 hl (by decide) rfl (fun ls hl => ?_)
      obtain ⟨q_9, h_q_9, hT⟩ := mx_bind hT
      refine kL_told_30 X hR hJ hy0 hy1 hy2 hy3 _ _ _ _ _ _ _ _ _ _ _ h_q_9 Z (lv_sub (l' := [(0, .ref (mad E (240))), (1, .ref (mad E (y1))), (2, .ref (mad E (y2))), (3, .ref (mad E (y3))), (4, .int (w4)), (5, .int (w5)), (6, .int (w6)), (7, .int (v_4)), (8, .int ((0 : Int32)))]) hl [2, 3, 4, 5, 6, 7, 8, 1, 0] rfl) (fun H locs ls Z hl => ?_)
      · refine lv_iload hx hb dL_told_51 (lv_at hl 4 rfl) ?_
        refine lv_iload hx hb dL_told_53 (lv_at hl 7 rfl) ?_
        refine lv_iadd hx hb dL_told_55 ?_
        obtain ⟨v_10, e_v_10, hT⟩ := mx_nm hT
        refine mx_tops (congrArg (fun z => (.int (z) :: [] : List Value)) e_v_10) ?_
        refine lv_istore (lv' := [(4, .int (v_10)), (0, .ref (mad E (240))), (1, .ref (mad E (y1))), (2, .ref (mad E (y2))), (3, .ref (mad E (y3))), (5, .int (w5)), (6, .int (w6)), (7, .int (v_4)), (8, .int (q_9))]) hx hb dL_told_56 hl (by decide) rfl (fun ls hl => ?_)
        refine lv_iload hx hb dL_told_58 (lv_at hl 5 rfl) ?_
        refine lv_iload hx hb dL_told_60 (lv_at hl 7 rfl) ?_
        refine lv_aload_n hx hb dL_told_62 rfl (lv_at hl 2 rfl) ?_
        refine lv_iconst (v := (2 : Int32)) hx hb dL_told_63 (by decide) ?_
        obtain ⟨h_11, hT⟩ := mx_chk hT
        refine mx_iald X Z hy1 h_11 dL_told_64 ?_
        refine mx_tops (s2 := [.int (G y1 (((2 : Int32)).toNatClampNeg)), .int (v_4), .int (w5)]) rfl ?_
        refine lv_icmp_le (tgt := 75) hx hb dL_told_65 (by decide) (fun h_12 => ?_) (fun h_12 => ?_)
        · replace hT := mx_t hT h_12
          refine lv_iconst (v := (0 : Int32)) hx hb dL_told_75 (by decide) ?_
          refine lv_ior hx hb dL_told_76 ?_
          obtain ⟨v_13, e_v_13, hT⟩ := mx_nm hT
          refine mx_tops (congrArg (fun z => (.int (z) :: [] : List Value)) e_v_13) ?_
          refine lv_istore (lv' := [(5, .int (v_13)), (4, .int (v_10)), (0, .ref (mad E (240))), (1, .ref (mad E (y1))), (2, .ref (mad E (y2))), (3, .ref (mad E (y3))), (6, .int (w6)), (7, .int (v_4)), (8, .int (q_9))]) hx hb dL_told_77 hl (by decide) rfl (fun ls hl => ?_)
          refine lv_aload_n hx hb dL_told_79 rfl (lv_at hl 2 rfl) ?_
          refine lv_iload hx hb dL_told_80 (lv_at hl 6 rfl) ?_
          refine lv_iconst (v := (0 : Int32)) hx hb dL_told_82 (by decide) ?_
          obtain ⟨q_14, h_q_14, hT⟩ := mx_bind hT
          refine mx_callV (As := [.int (w6), .int ((0 : Int32))]) (rest := []) (st1 := [.int (q_14)]) (C := RX5) (T := TX5) (N := 6) (ci := 5) X Z hl.1 (c5_segment l E hJ hy0 _ _ _ _ h_q_14) wd_10_9 wd_10_10 wd_10_11 wd_1_2 wd_10_12 hd5_segment ⟨Nat.le_trans (by decide) hR.1, Nat.le_trans (by decide) hR.2⟩ ⟨Nat.zero_le _, Nat.zero_le _⟩ hy0.i (hy0.c _) rfl (Nat.le_of_ble_eq_true rfl) rfl rfl dL_told_83 (fun H locs Z => ?_)
          refine lv_aload_n hx hb dL_told_86 rfl (lv_at hl 4 rfl) ?_
          refine lv_iconst (v := (3 : Int32)) hx hb dL_told_87 (by decide) ?_
          refine lv_iload hx hb dL_told_88 (lv_at hl 6 rfl) ?_
          refine lv_imul hx hb dL_told_90 ?_
          obtain ⟨h_15, hT⟩ := mx_chk hT
          refine mx_iald X Z hy2 h_15 dL_told_91 ?_
          refine lv_icmp_ne (tgt := 208) hx hb dL_told_92 (by decide) (fun h_16 => ?_) (fun h_16 => ?_)
          · replace hT := mx_f hT h_16
            cases hT
            exact k1 rfl _ _ _ Z (lv_sub hl [2, 3, 4, 5] rfl)
          · replace hT := mx_t hT h_16
            refine lv_aload_n hx hb dL_told_95 rfl (lv_at hl 2 rfl) ?_
            refine lv_iload hx hb dL_told_96 (lv_at hl 6 rfl) ?_
            refine lv_iconst (v := (1 : Int32)) hx hb dL_told_98 (by decide) ?_
            obtain ⟨q_17, h_q_17, hT⟩ := mx_bind hT
            refine mx_callV (As := [.int (w6), .int ((1 : Int32))]) (rest := []) (st1 := [.int (q_17)]) (C := RX5) (T := TX5) (N := 6) (ci := 5) X Z hl.1 (c5_segment l E hJ hy0 _ _ _ _ h_q_17) wd_10_9 wd_10_10 wd_10_11 wd_1_2 wd_10_12 hd5_segment ⟨Nat.le_trans (by decide) hR.1, Nat.le_trans (by decide) hR.2⟩ ⟨Nat.zero_le _, Nat.zero_le _⟩ hy0.i (hy0.c _) rfl (Nat.le_of_ble_eq_true rfl) rfl rfl dL_told_99 (fun H locs Z => ?_)
            refine lv_iload hx hb dL_told_102 (lv_at hl 6 rfl) ?_
            refine lv_aload_n hx hb dL_told_104 rfl (lv_at hl 3 rfl) ?_
            refine lv_aload_n hx hb dL_told_105 rfl (lv_at hl 4 rfl) ?_
            obtain ⟨q_18, h_q_18, hT⟩ := mx_bind hT
            refine mx_callS (As := [.int (w6), .ref (mad E (y1)), .ref (mad E (y2))]) (rest := [.int (q_17)]) (st1 := [.int (q_18), .int (q_17)]) X Z hl.1 (mL_passing l E hJ hy1 hy2 _ _ _ h_q_18) wd_11_16 wd_11_17 wd_10_7 wd_11_18 hdL_passing ⟨Nat.le_trans (by decide) hR.1, Nat.le_trans (by decide) hR.2⟩ ⟨Nat.zero_le _, Nat.zero_le _⟩ (Nat.le_of_ble_eq_true rfl) rfl rfl dL_told_106 (fun H locs Z => ?_)
            refine lv_if_eq (tgt := 116) hx hb dL_told_109 (by decide) (fun h_19 => ?_) (fun h_19 => ?_)
            · replace hT := mx_t hT h_19
              refine lv_iconst (v := (0 : Int32)) hx hb dL_told_116 (by decide) ?_
              refine lv_icmp_ne (tgt := 208) hx hb dL_told_117 (by decide) (fun h_20 => ?_) (fun h_20 => ?_)
              · replace hT := mx_f hT h_20
                cases hT
                exact k1 rfl _ _ _ Z (lv_sub hl [2, 3, 4, 5] rfl)
              · replace hT := mx_t hT h_20
                refine lv_aload_n hx hb dL_told_120 rfl (lv_at hl 2 rfl) ?_
                refine lv_iload hx hb dL_told_121 (lv_at hl 6 rfl) ?_
                refine lv_iconst (v := (2 : Int32)) hx hb dL_told_123 (by decide) ?_
                obtain ⟨q_21, h_q_21, hT⟩ := mx_bind hT
                refine mx_callV (As := [.int (w6), .int ((2 : Int32))]) (rest := []) (st1 := [.int (q_21)]) (C := RX5) (T := TX5) (N := 6) (ci := 5) X Z hl.1 (c5_segment l E hJ hy0 _ _ _ _ h_q_21) wd_10_9 wd_10_10 wd_10_11 wd_1_2 wd_10_12 hd5_segment ⟨Nat.le_trans (by decide) hR.1, Nat.le_trans (by decide) hR.2⟩ ⟨Nat.zero_le _, Nat.zero_le _⟩ hy0.i (hy0.c _) rfl (Nat.le_of_ble_eq_true rfl) rfl rfl dL_told_124 (fun H locs Z => ?_)
                refine lv_iload hx hb dL_told_127 (lv_at hl 7 rfl) ?_
                refine lv_icmp_ne (tgt := 208) hx hb dL_told_129 (by decide) (fun h_22 => ?_) (fun h_22 => ?_)
                · replace hT := mx_f hT h_22
                  cases hT
                  exact k1 rfl _ _ _ Z (lv_sub hl [2, 3, 4, 5] rfl)
                · replace hT := mx_t hT h_22
                  refine lv_aload_n hx hb dL_told_132 rfl (lv_at hl 2 rfl) ?_
                  refine lv_iload hx hb dL_told_133 (lv_at hl 6 rfl) ?_
                  refine lv_iconst (v := (3 : Int32)) hx hb dL_told_135 (by decide) ?_
                  obtain ⟨q_23, h_q_23, hT⟩ := mx_bind hT
                  refine mx_callV (As := [.int (w6), .int ((3 : Int32))]) (rest := []) (st1 := [.int (q_23)]) (C := RX5) (T := TX5) (N := 6) (ci := 5) X Z hl.1 (c5_segment l E hJ hy0 _ _ _ _ h_q_23) wd_10_9 wd_10_10 wd_10_11 wd_1_2 wd_10_12 hd5_segment ⟨Nat.le_trans (by decide) hR.1, Nat.le_trans (by decide) hR.2⟩ ⟨Nat.zero_le _, Nat.zero_le _⟩ hy0.i (hy0.c _) rfl (Nat.le_of_ble_eq_true rfl) rfl rfl dL_told_136 (fun H locs Z => ?_)
                  refine lv_iload hx hb dL_told_139 (lv_at hl 6 rfl) ?_
                  refine lv_aload_n hx hb dL_told_141 rfl (lv_at hl 3 rfl) ?_
                  refine lv_aload_n hx hb dL_told_142 rfl (lv_at hl 5 rfl) ?_
                  obtain ⟨q_24, h_q_24, hT⟩ := mx_bind hT
                  refine mx_callS (As := [.int (w6), .ref (mad E (y1)), .ref (mad E (y3))]) (rest := [.int (q_23)]) (st1 := [.int (q_24), .int (q_23)]) X Z hl.1 (mL_many l E hJ hy1 hy3 _ _ _ h_q_24) wd_11_19 wd_11_20 wd_10_7 wd_11_21 hdL_many ⟨Nat.le_trans (by decide) hR.1, Nat.le_trans (by decide) hR.2⟩ ⟨Nat.zero_le _, Nat.zero_le _⟩ (Nat.le_of_ble_eq_true rfl) rfl rfl dL_told_143 (fun H locs Z => ?_)
                  refine lv_icmp_ne (tgt := 208) hx hb dL_told_146 (by decide) (fun h_25 => ?_) (fun h_25 => ?_)
                  · replace hT := mx_f hT h_25
                    cases hT
                    exact k1 rfl _ _ _ Z (lv_sub hl [2, 3, 4, 5] rfl)
                  · replace hT := mx_t hT h_25
                    refine lv_aload_n hx hb dL_told_149 rfl (lv_at hl 2 rfl) ?_
                    refine lv_iload hx hb dL_told_150 (lv_at hl 6 rfl) ?_
                    refine lv_iconst (v := (4 : Int32)) hx hb dL_told_152 (by decide) ?_
                    obtain ⟨q_26, h_q_26, hT⟩ := mx_bind hT
                    refine mx_callV (As := [.int (w6), .int ((4 : Int32))]) (rest := []) (st1 := [.int (q_26)]) (C := RX5) (T := TX5) (N := 6) (ci := 5) X Z hl.1 (c5_segment l E hJ hy0 _ _ _ _ h_q_26) wd_10_9 wd_10_10 wd_10_11 wd_1_2 wd_10_12 hd5_segment ⟨Nat.le_trans (by decide) hR.1, Nat.le_trans (by decide) hR.2⟩ ⟨Nat.zero_le _, Nat.zero_le _⟩ hy0.i (hy0.c _) rfl (Nat.le_of_ble_eq_true rfl) rfl rfl dL_told_153 (fun H locs Z => ?_)
                    refine lv_iload hx hb dL_told_156 (lv_at hl 6 rfl) ?_
                    refine lv_aload_n hx hb dL_told_158 rfl (lv_at hl 3 rfl) ?_
                    refine lv_aload_n hx hb dL_told_159 rfl (lv_at hl 5 rfl) ?_
                    obtain ⟨q_27, h_q_27, hT⟩ := mx_bind hT
                    refine mx_callS (As := [.int (w6), .ref (mad E (y1)), .ref (mad E (y3))]) (rest := [.int (q_26)]) (st1 := [.int (q_27), .int (q_26)]) X Z hl.1 (mL_there l E hJ hy1 hy3 _ _ _ h_q_27) wd_11_22 wd_11_23 wd_10_7 wd_12_0 hdL_there ⟨Nat.le_trans (by decide) hR.1, Nat.le_trans (by decide) hR.2⟩ ⟨Nat.zero_le _, Nat.zero_le _⟩ (Nat.le_of_ble_eq_true rfl) rfl rfl dL_told_160 (fun H locs Z => ?_)
                    refine lv_sipush (v := (10000 : Int32)) hx hb dL_told_163 (by decide) ?_
                    refine lv_idiv hx hb dL_told_166 (by decide) ?_
                    refine lv_icmp_ne (tgt := 208) hx hb dL_told_167 (by decide) (fun h_28 => ?_) (fun h_28 => ?_)
                    · replace hT := mx_f hT h_28
                      cases hT
                      exact k1 rfl _ _ _ Z (lv_sub hl [2, 3, 4, 5] rfl)
                    · replace hT := mx_t hT h_28
                      refine lv_aload_n hx hb dL_told_170 rfl (lv_at hl 2 rfl) ?_
                      refine lv_iload hx hb dL_told_171 (lv_at hl 6 rfl) ?_
                      refine lv_iconst (v := (5 : Int32)) hx hb dL_told_173 (by decide) ?_
                      obtain ⟨q_29, h_q_29, hT⟩ := mx_bind hT
                      refine mx_callV (As := [.int (w6), .int ((5 : Int32))]) (rest := []) (st1 := [.int (q_29)]) (C := RX5) (T := TX5) (N := 6) (ci := 5) X Z hl.1 (c5_segment l E hJ hy0 _ _ _ _ h_q_29) wd_10_9 wd_10_10 wd_10_11 wd_1_2 wd_10_12 hd5_segment ⟨Nat.le_trans (by decide) hR.1, Nat.le_trans (by decide) hR.2⟩ ⟨Nat.zero_le _, Nat.zero_le _⟩ hy0.i (hy0.c _) rfl (Nat.le_of_ble_eq_true rfl) rfl rfl dL_told_174 (fun H locs Z => ?_)
                      refine lv_iload hx hb dL_told_177 (lv_at hl 6 rfl) ?_
                      refine lv_aload_n hx hb dL_told_179 rfl (lv_at hl 3 rfl) ?_
                      refine lv_aload_n hx hb dL_told_180 rfl (lv_at hl 4 rfl) ?_
                      obtain ⟨q_30, h_q_30, hT⟩ := mx_bind hT
                      refine mx_callS (As := [.int (w6), .ref (mad E (y1)), .ref (mad E (y2))]) (rest := [.int (q_29)]) (st1 := [.int (q_30), .int (q_29)]) X Z hl.1 (mL_room l E hJ hy1 hy2 _ _ _ h_q_30) wd_12_4 wd_12_5 wd_10_7 wd_12_6 hdL_room ⟨Nat.le_trans (by decide) hR.1, Nat.le_trans (by decide) hR.2⟩ ⟨Nat.zero_le _, Nat.zero_le _⟩ (Nat.le_of_ble_eq_true rfl) rfl rfl dL_told_181 (fun H locs Z => ?_)
                      refine lv_iload hx hb dL_told_184 (lv_at hl 6 rfl) ?_
                      refine lv_aload_n hx hb dL_told_186 rfl (lv_at hl 3 rfl) ?_
                      refine lv_aload_n hx hb dL_told_187 rfl (lv_at hl 5 rfl) ?_
                      obtain ⟨q_31, h_q_31, hT⟩ := mx_bind hT
                      refine mx_callS (As := [.int (w6), .ref (mad E (y1)), .ref (mad E (y3))]) (rest := [.int (q_30), .int (q_29)]) (st1 := [.int (q_31), .int (q_30), .int (q_29)]) X Z hl.1 (mL_many l E hJ hy1 hy3 _ _ _ h_q_31) wd_11_19 wd_11_20 wd_10_7 wd_11_21 hdL_many ⟨Nat.le_trans (by decide) hR.1, Nat.le_trans (by decide) hR.2⟩ ⟨Nat.zero_le _, Nat.zero_le _⟩ (Nat.le_of_ble_eq_true rfl) rfl rfl dL_told_188 (fun H locs Z => ?_)
                      refine lv_isub hx hb dL_told_191 ?_
                      refine lv_icmp_ne (tgt := 208) hx hb dL_told_192 (by decide) (fun h_32 => ?_) (fun h_32 => ?_)
                      · replace hT := mx_f hT h_32
                        cases hT
                        exact k1 rfl _ _ _ Z (lv_sub hl [2, 3, 4, 5] rfl)
                      · replace hT := mx_t hT h_32
                        refine lv_aload_n hx hb dL_told_195 rfl (lv_at hl 2 rfl) ?_
                        refine lv_iload hx hb dL_told_196 (lv_at hl 6 rfl) ?_
                        refine lv_bipush (v := (6 : Int32)) hx hb dL_told_198 (by decide) ?_
                        obtain ⟨q_33, h_q_33, hT⟩ := mx_bind hT
                        refine mx_callV (As := [.int (w6), .int ((6 : Int32))]) (rest := []) (st1 := [.int (q_33)]) (C := RX5) (T := TX5) (N := 6) (ci := 5) X Z hl.1 (c5_segment l E hJ hy0 _ _ _ _ h_q_33) wd_10_9 wd_10_10 wd_10_11 wd_1_2 wd_10_12 hd5_segment ⟨Nat.le_trans (by decide) hR.1, Nat.le_trans (by decide) hR.2⟩ ⟨Nat.zero_le _, Nat.zero_le _⟩ hy0.i (hy0.c _) rfl (Nat.le_of_ble_eq_true rfl) rfl rfl dL_told_200 (fun H locs Z => ?_)
                        refine lv_iload hx hb dL_told_203 (lv_at hl 8 rfl) ?_
                        refine lv_icmp_eq (tgt := 210) hx hb dL_told_205 (by decide) (fun h_34 => ?_) (fun h_34 => ?_)
                        · replace hT := mx_t hT h_34
                          obtain ⟨v_35, e_v_35, hT⟩ := mx_nm hT
                          refine lv_iinc (v := v_35) (lv' := [(6, .int (v_35)), (5, .int (v_13)), (4, .int (v_10)), (0, .ref (mad E (240))), (1, .ref (mad E (y1))), (2, .ref (mad E (y2))), (3, .ref (mad E (y3))), (7, .int (v_4)), (8, .int (q_9))]) hx hb dL_told_210 hl (k := 6) rfl (by rw [← e_v_35]; rfl) (by decide) rfl (fun ls hl => ?_)
                          refine lv_goto (tgt := 9) hx hb dL_told_213 (by decide) ?_
                          exact ih _ _ _ _ _ _ _ _ hT Z (lv_sub hl [3, 4, 5, 6, 2, 1, 0] rfl) k0 k1
                        · replace hT := mx_f hT h_34
                          cases hT
                          exact k1 rfl _ _ _ Z (lv_sub hl [2, 3, 4, 5] rfl)
            · replace hT := mx_f hT h_19
              refine lv_iconst (v := (1 : Int32)) hx hb dL_told_112 (by decide) ?_
              refine lv_goto (tgt := 117) hx hb dL_told_113 (by decide) ?_
              refine lv_icmp_ne (tgt := 208) hx hb dL_told_117 (by decide) (fun h_36 => ?_) (fun h_36 => ?_)
              · replace hT := mx_f hT h_36
                cases hT
                exact k1 rfl _ _ _ Z (lv_sub hl [2, 3, 4, 5] rfl)
              · replace hT := mx_t hT h_36
                refine lv_aload_n hx hb dL_told_120 rfl (lv_at hl 2 rfl) ?_
                refine lv_iload hx hb dL_told_121 (lv_at hl 6 rfl) ?_
                refine lv_iconst (v := (2 : Int32)) hx hb dL_told_123 (by decide) ?_
                obtain ⟨q_37, h_q_37, hT⟩ := mx_bind hT
                refine mx_callV (As := [.int (w6), .int ((2 : Int32))]) (rest := []) (st1 := [.int (q_37)]) (C := RX5) (T := TX5) (N := 6) (ci := 5) X Z hl.1 (c5_segment l E hJ hy0 _ _ _ _ h_q_37) wd_10_9 wd_10_10 wd_10_11 wd_1_2 wd_10_12 hd5_segment ⟨Nat.le_trans (by decide) hR.1, Nat.le_trans (by decide) hR.2⟩ ⟨Nat.zero_le _, Nat.zero_le _⟩ hy0.i (hy0.c _) rfl (Nat.le_of_ble_eq_true rfl) rfl rfl dL_told_124 (fun H locs Z => ?_)
                refine lv_iload hx hb dL_told_127 (lv_at hl 7 rfl) ?_
                refine lv_icmp_ne (tgt := 208) hx hb dL_told_129 (by decide) (fun h_38 => ?_) (fun h_38 => ?_)
                · replace hT := mx_f hT h_38
                  cases hT
                  exact k1 rfl _ _ _ Z (lv_sub hl [2, 3, 4, 5] rfl)
                · replace hT := mx_t hT h_38
                  refine lv_aload_n hx hb dL_told_132 rfl (lv_at hl 2 rfl) ?_
                  refine lv_iload hx hb dL_told_133 (lv_at hl 6 rfl) ?_
                  refine lv_iconst (v := (3 : Int32)) hx hb dL_told_135 (by decide) ?_
                  obtain ⟨q_39, h_q_39, hT⟩ := mx_bind hT
                  refine mx_callV (As := [.int (w6), .int ((3 : Int32))]) (rest := []) (st1 := [.int (q_39)]) (C := RX5) (T := TX5) (N := 6) (ci := 5) X Z hl.1 (c5_segment l E hJ hy0 _ _ _ _ h_q_39) wd_10_9 wd_10_10 wd_10_11 wd_1_2 wd_10_12 hd5_segment ⟨Nat.le_trans (by decide) hR.1, Nat.le_trans (by decide) hR.2⟩ ⟨Nat.zero_le _, Nat.zero_le _⟩ hy0.i (hy0.c _) rfl (Nat.le_of_ble_eq_true rfl) rfl rfl dL_told_136 (fun H locs Z => ?_)
                  refine lv_iload hx hb dL_told_139 (lv_at hl 6 rfl) ?_
                  refine lv_aload_n hx hb dL_told_141 rfl (lv_at hl 3 rfl) ?_
                  refine lv_aload_n hx hb dL_told_142 rfl (lv_at hl 5 rfl) ?_
                  obtain ⟨q_40, h_q_40, hT⟩ := mx_bind hT
                  refine mx_callS (As := [.int (w6), .ref (mad E (y1)), .ref (mad E (y3))]) (rest := [.int (q_39)]) (st1 := [.int (q_40), .int (q_39)]) X Z hl.1 (mL_many l E hJ hy1 hy3 _ _ _ h_q_40) wd_11_19 wd_11_20 wd_10_7 wd_11_21 hdL_many ⟨Nat.le_trans (by decide) hR.1, Nat.le_trans (by decide) hR.2⟩ ⟨Nat.zero_le _, Nat.zero_le _⟩ (Nat.le_of_ble_eq_true rfl) rfl rfl dL_told_143 (fun H locs Z => ?_)
                  refine lv_icmp_ne (tgt := 208) hx hb dL_told_146 (by decide) (fun h_41 => ?_) (fun h_41 => ?_)
                  · replace hT := mx_f hT h_41
                    cases hT
                    exact k1 rfl _ _ _ Z (lv_sub hl [2, 3, 4, 5] rfl)
                  · replace hT := mx_t hT h_41
                    refine lv_aload_n hx hb dL_told_149 rfl (lv_at hl 2 rfl) ?_
                    refine lv_iload hx hb dL_told_150 (lv_at hl 6 rfl) ?_
                    refine lv_iconst (v := (4 : Int32)) hx hb dL_told_152 (by decide) ?_
                    obtain ⟨q_42, h_q_42, hT⟩ := mx_bind hT
                    refine mx_callV (As := [.int (w6), .int ((4 : Int32))]) (rest := []) (st1 := [.int (q_42)]) (C := RX5) (T := TX5) (N := 6) (ci := 5) X Z hl.1 (c5_segment l E hJ hy0 _ _ _ _ h_q_42) wd_10_9 wd_10_10 wd_10_11 wd_1_2 wd_10_12 hd5_segment ⟨Nat.le_trans (by decide) hR.1, Nat.le_trans (by decide) hR.2⟩ ⟨Nat.zero_le _, Nat.zero_le _⟩ hy0.i (hy0.c _) rfl (Nat.le_of_ble_eq_true rfl) rfl rfl dL_told_153 (fun H locs Z => ?_)
                    refine lv_iload hx hb dL_told_156 (lv_at hl 6 rfl) ?_
                    refine lv_aload_n hx hb dL_told_158 rfl (lv_at hl 3 rfl) ?_
                    refine lv_aload_n hx hb dL_told_159 rfl (lv_at hl 5 rfl) ?_
                    obtain ⟨q_43, h_q_43, hT⟩ := mx_bind hT
                    refine mx_callS (As := [.int (w6), .ref (mad E (y1)), .ref (mad E (y3))]) (rest := [.int (q_42)]) (st1 := [.int (q_43), .int (q_42)]) X Z hl.1 (mL_there l E hJ hy1 hy3 _ _ _ h_q_43) wd_11_22 wd_11_23 wd_10_7 wd_12_0 hdL_there ⟨Nat.le_trans (by decide) hR.1, Nat.le_trans (by decide) hR.2⟩ ⟨Nat.zero_le _, Nat.zero_le _⟩ (Nat.le_of_ble_eq_true rfl) rfl rfl dL_told_160 (fun H locs Z => ?_)
                    refine lv_sipush (v := (10000 : Int32)) hx hb dL_told_163 (by decide) ?_
                    refine lv_idiv hx hb dL_told_166 (by decide) ?_
                    refine lv_icmp_ne (tgt := 208) hx hb dL_told_167 (by decide) (fun h_44 => ?_) (fun h_44 => ?_)
                    · replace hT := mx_f hT h_44
                      cases hT
                      exact k1 rfl _ _ _ Z (lv_sub hl [2, 3, 4, 5] rfl)
                    · replace hT := mx_t hT h_44
                      refine lv_aload_n hx hb dL_told_170 rfl (lv_at hl 2 rfl) ?_
                      refine lv_iload hx hb dL_told_171 (lv_at hl 6 rfl) ?_
                      refine lv_iconst (v := (5 : Int32)) hx hb dL_told_173 (by decide) ?_
                      obtain ⟨q_45, h_q_45, hT⟩ := mx_bind hT
                      refine mx_callV (As := [.int (w6), .int ((5 : Int32))]) (rest := []) (st1 := [.int (q_45)]) (C := RX5) (T := TX5) (N := 6) (ci := 5) X Z hl.1 (c5_segment l E hJ hy0 _ _ _ _ h_q_45) wd_10_9 wd_10_10 wd_10_11 wd_1_2 wd_10_12 hd5_segment ⟨Nat.le_trans (by decide) hR.1, Nat.le_trans (by decide) hR.2⟩ ⟨Nat.zero_le _, Nat.zero_le _⟩ hy0.i (hy0.c _) rfl (Nat.le_of_ble_eq_true rfl) rfl rfl dL_told_174 (fun H locs Z => ?_)
                      refine lv_iload hx hb dL_told_177 (lv_at hl 6 rfl) ?_
                      refine lv_aload_n hx hb dL_told_179 rfl (lv_at hl 3 rfl) ?_
                      refine lv_aload_n hx hb dL_told_180 rfl (lv_at hl 4 rfl) ?_
                      obtain ⟨q_46, h_q_46, hT⟩ := mx_bind hT
                      refine mx_callS (As := [.int (w6), .ref (mad E (y1)), .ref (mad E (y2))]) (rest := [.int (q_45)]) (st1 := [.int (q_46), .int (q_45)]) X Z hl.1 (mL_room l E hJ hy1 hy2 _ _ _ h_q_46) wd_12_4 wd_12_5 wd_10_7 wd_12_6 hdL_room ⟨Nat.le_trans (by decide) hR.1, Nat.le_trans (by decide) hR.2⟩ ⟨Nat.zero_le _, Nat.zero_le _⟩ (Nat.le_of_ble_eq_true rfl) rfl rfl dL_told_181 (fun H locs Z => ?_)
                      refine lv_iload hx hb dL_told_184 (lv_at hl 6 rfl) ?_
                      refine lv_aload_n hx hb dL_told_186 rfl (lv_at hl 3 rfl) ?_
                      refine lv_aload_n hx hb dL_told_187 rfl (lv_at hl 5 rfl) ?_
                      obtain ⟨q_47, h_q_47, hT⟩ := mx_bind hT
                      refine mx_callS (As := [.int (w6), .ref (mad E (y1)), .ref (mad E (y3))]) (rest := [.int (q_46), .int (q_45)]) (st1 := [.int (q_47), .int (q_46), .int (q_45)]) X Z hl.1 (mL_many l E hJ hy1 hy3 _ _ _ h_q_47) wd_11_19 wd_11_20 wd_10_7 wd_11_21 hdL_many ⟨Nat.le_trans (by decide) hR.1, Nat.le_trans (by decide) hR.2⟩ ⟨Nat.zero_le _, Nat.zero_le _⟩ (Nat.le_of_ble_eq_true rfl) rfl rfl dL_told_188 (fun H locs Z => ?_)
                      refine lv_isub hx hb dL_told_191 ?_
                      refine lv_icmp_ne (tgt := 208) hx hb dL_told_192 (by decide) (fun h_48 => ?_) (fun h_48 => ?_)
                      · replace hT := mx_f hT h_48
                        cases hT
                        exact k1 rfl _ _ _ Z (lv_sub hl [2, 3, 4, 5] rfl)
                      · replace hT := mx_t hT h_48
                        refine lv_aload_n hx hb dL_told_195 rfl (lv_at hl 2 rfl) ?_
                        refine lv_iload hx hb dL_told_196 (lv_at hl 6 rfl) ?_
                        refine lv_bipush (v := (6 : Int32)) hx hb dL_told_198 (by decide) ?_
                        obtain ⟨q_49, h_q_49, hT⟩ := mx_bind hT
                        refine mx_callV (As := [.int (w6), .int ((6 : Int32))]) (rest := []) (st1 := [.int (q_49)]) (C := RX5) (T := TX5) (N := 6) (ci := 5) X Z hl.1 (c5_segment l E hJ hy0 _ _ _ _ h_q_49) wd_10_9 wd_10_10 wd_10_11 wd_1_2 wd_10_12 hd5_segment ⟨Nat.le_trans (by decide) hR.1, Nat.le_trans (by decide) hR.2⟩ ⟨Nat.zero_le _, Nat.zero_le _⟩ hy0.i (hy0.c _) rfl (Nat.le_of_ble_eq_true rfl) rfl rfl dL_told_200 (fun H locs Z => ?_)
                        refine lv_iload hx hb dL_told_203 (lv_at hl 8 rfl) ?_
                        refine lv_icmp_eq (tgt := 210) hx hb dL_told_205 (by decide) (fun h_50 => ?_) (fun h_50 => ?_)
                        · replace hT := mx_t hT h_50
                          obtain ⟨v_51, e_v_51, hT⟩ := mx_nm hT
                          refine lv_iinc (v := v_51) (lv' := [(6, .int (v_51)), (5, .int (v_13)), (4, .int (v_10)), (0, .ref (mad E (240))), (1, .ref (mad E (y1))), (2, .ref (mad E (y2))), (3, .ref (mad E (y3))), (7, .int (v_4)), (8, .int (q_9))]) hx hb dL_told_210 hl (k := 6) rfl (by rw [← e_v_51]; rfl) (by decide) rfl (fun ls hl => ?_)
                          refine lv_goto (tgt := 9) hx hb dL_told_213 (by decide) ?_
                          exact ih _ _ _ _ _ _ _ _ hT Z (lv_sub hl [3, 4, 5, 6, 2, 1, 0] rfl) k0 k1
                        · replace hT := mx_f hT h_50
                          cases hT
                          exact k1 rfl _ _ _ Z (lv_sub hl [2, 3, 4, 5] rfl)
        · replace hT := mx_f hT h_12
          refine lv_iconst (v := (1 : Int32)) hx hb dL_told_68 (by decide) ?_
          refine lv_iload hx hb dL_told_69 (lv_at hl 6 rfl) ?_
          refine lv_ishl hx hb dL_told_71 ?_
          refine lv_goto (tgt := 76) hx hb dL_told_72 (by decide) ?_
          refine lv_ior hx hb dL_told_76 ?_
          obtain ⟨v_52, e_v_52, hT⟩ := mx_nm hT
          refine mx_tops (congrArg (fun z => (.int (z) :: [] : List Value)) e_v_52) ?_
          refine lv_istore (lv' := [(5, .int (v_52)), (4, .int (v_10)), (0, .ref (mad E (240))), (1, .ref (mad E (y1))), (2, .ref (mad E (y2))), (3, .ref (mad E (y3))), (6, .int (w6)), (7, .int (v_4)), (8, .int (q_9))]) hx hb dL_told_77 hl (by decide) rfl (fun ls hl => ?_)
          refine lv_aload_n hx hb dL_told_79 rfl (lv_at hl 2 rfl) ?_
          refine lv_iload hx hb dL_told_80 (lv_at hl 6 rfl) ?_
          refine lv_iconst (v := (0 : Int32)) hx hb dL_told_82 (by decide) ?_
          obtain ⟨q_53, h_q_53, hT⟩ := mx_bind hT
          refine mx_callV (As := [.int (w6), .int ((0 : Int32))]) (rest := []) (st1 := [.int (q_53)]) (C := RX5) (T := TX5) (N := 6) (ci := 5) X Z hl.1 (c5_segment l E hJ hy0 _ _ _ _ h_q_53) wd_10_9 wd_10_10 wd_10_11 wd_1_2 wd_10_12 hd5_segment ⟨Nat.le_trans (by decide) hR.1, Nat.le_trans (by decide) hR.2⟩ ⟨Nat.zero_le _, Nat.zero_le _⟩ hy0.i (hy0.c _) rfl (Nat.le_of_ble_eq_true rfl) rfl rfl dL_told_83 (fun H locs Z => ?_)
          refine lv_aload_n hx hb dL_told_86 rfl (lv_at hl 4 rfl) ?_
          refine lv_iconst (v := (3 : Int32)) hx hb dL_told_87 (by decide) ?_
          refine lv_iload hx hb dL_told_88 (lv_at hl 6 rfl) ?_
          refine lv_imul hx hb dL_told_90 ?_
          obtain ⟨h_54, hT⟩ := mx_chk hT
          refine mx_iald X Z hy2 h_54 dL_told_91 ?_
          refine lv_icmp_ne (tgt := 208) hx hb dL_told_92 (by decide) (fun h_55 => ?_) (fun h_55 => ?_)
          · replace hT := mx_f hT h_55
            cases hT
            exact k1 rfl _ _ _ Z (lv_sub hl [2, 3, 4, 5] rfl)
          · replace hT := mx_t hT h_55
            refine lv_aload_n hx hb dL_told_95 rfl (lv_at hl 2 rfl) ?_
            refine lv_iload hx hb dL_told_96 (lv_at hl 6 rfl) ?_
            refine lv_iconst (v := (1 : Int32)) hx hb dL_told_98 (by decide) ?_
            obtain ⟨q_56, h_q_56, hT⟩ := mx_bind hT
            refine mx_callV (As := [.int (w6), .int ((1 : Int32))]) (rest := []) (st1 := [.int (q_56)]) (C := RX5) (T := TX5) (N := 6) (ci := 5) X Z hl.1 (c5_segment l E hJ hy0 _ _ _ _ h_q_56) wd_10_9 wd_10_10 wd_10_11 wd_1_2 wd_10_12 hd5_segment ⟨Nat.le_trans (by decide) hR.1, Nat.le_trans (by decide) hR.2⟩ ⟨Nat.zero_le _, Nat.zero_le _⟩ hy0.i (hy0.c _) rfl (Nat.le_of_ble_eq_true rfl) rfl rfl dL_told_99 (fun H locs Z => ?_)
            refine lv_iload hx hb dL_told_102 (lv_at hl 6 rfl) ?_
            refine lv_aload_n hx hb dL_told_104 rfl (lv_at hl 3 rfl) ?_
            refine lv_aload_n hx hb dL_told_105 rfl (lv_at hl 4 rfl) ?_
            obtain ⟨q_57, h_q_57, hT⟩ := mx_bind hT
            refine mx_callS (As := [.int (w6), .ref (mad E (y1)), .ref (mad E (y2))]) (rest := [.int (q_56)]) (st1 := [.int (q_57), .int (q_56)]) X Z hl.1 (mL_passing l E hJ hy1 hy2 _ _ _ h_q_57) wd_11_16 wd_11_17 wd_10_7 wd_11_18 hdL_passing ⟨Nat.le_trans (by decide) hR.1, Nat.le_trans (by decide) hR.2⟩ ⟨Nat.zero_le _, Nat.zero_le _⟩ (Nat.le_of_ble_eq_true rfl) rfl rfl dL_told_106 (fun H locs Z => ?_)
            refine lv_if_eq (tgt := 116) hx hb dL_told_109 (by decide) (fun h_58 => ?_) (fun h_58 => ?_)
            · replace hT := mx_t hT h_58
              refine lv_iconst (v := (0 : Int32)) hx hb dL_told_116 (by decide) ?_
              refine lv_icmp_ne (tgt := 208) hx hb dL_told_117 (by decide) (fun h_59 => ?_) (fun h_59 => ?_)
              · replace hT := mx_f hT h_59
                cases hT
                exact k1 rfl _ _ _ Z (lv_sub hl [2, 3, 4, 5] rfl)
              · replace hT := mx_t hT h_59
                refine lv_aload_n hx hb dL_told_120 rfl (lv_at hl 2 rfl) ?_
                refine lv_iload hx hb dL_told_121 (lv_at hl 6 rfl) ?_
                refine lv_iconst (v := (2 : Int32)) hx hb dL_told_123 (by decide) ?_
                obtain ⟨q_60, h_q_60, hT⟩ := mx_bind hT
                refine mx_callV (As := [.int (w6), .int ((2 : Int32))]) (rest := []) (st1 := [.int (q_60)]) (C := RX5) (T := TX5) (N := 6) (ci := 5) X Z hl.1 (c5_segment l E hJ hy0 _ _ _ _ h_q_60) wd_10_9 wd_10_10 wd_10_11 wd_1_2 wd_10_12 hd5_segment ⟨Nat.le_trans (by decide) hR.1, Nat.le_trans (by decide) hR.2⟩ ⟨Nat.zero_le _, Nat.zero_le _⟩ hy0.i (hy0.c _) rfl (Nat.le_of_ble_eq_true rfl) rfl rfl dL_told_124 (fun H locs Z => ?_)
                refine lv_iload hx hb dL_told_127 (lv_at hl 7 rfl) ?_
                refine lv_icmp_ne (tgt := 208) hx hb dL_told_129 (by decide) (fun h_61 => ?_) (fun h_61 => ?_)
                · replace hT := mx_f hT h_61
                  cases hT
                  exact k1 rfl _ _ _ Z (lv_sub hl [2, 3, 4, 5] rfl)
                · replace hT := mx_t hT h_61
                  refine lv_aload_n hx hb dL_told_132 rfl (lv_at hl 2 rfl) ?_
                  refine lv_iload hx hb dL_told_133 (lv_at hl 6 rfl) ?_
                  refine lv_iconst (v := (3 : Int32)) hx hb dL_told_135 (by decide) ?_
                  obtain ⟨q_62, h_q_62, hT⟩ := mx_bind hT
                  refine mx_callV (As := [.int (w6), .int ((3 : Int32))]) (rest := []) (st1 := [.int (q_62)]) (C := RX5) (T := TX5) (N := 6) (ci := 5) X Z hl.1 (c5_segment l E hJ hy0 _ _ _ _ h_q_62) wd_10_9 wd_10_10 wd_10_11 wd_1_2 wd_10_12 hd5_segment ⟨Nat.le_trans (by decide) hR.1, Nat.le_trans (by decide) hR.2⟩ ⟨Nat.zero_le _, Nat.zero_le _⟩ hy0.i (hy0.c _) rfl (Nat.le_of_ble_eq_true rfl) rfl rfl dL_told_136 (fun H locs Z => ?_)
                  refine lv_iload hx hb dL_told_139 (lv_at hl 6 rfl) ?_
                  refine lv_aload_n hx hb dL_told_141 rfl (lv_at hl 3 rfl) ?_
                  refine lv_aload_n hx hb dL_told_142 rfl (lv_at hl 5 rfl) ?_
                  obtain ⟨q_63, h_q_63, hT⟩ := mx_bind hT
                  refine mx_callS (As := [.int (w6), .ref (mad E (y1)), .ref (mad E (y3))]) (rest := [.int (q_62)]) (st1 := [.int (q_63), .int (q_62)]) X Z hl.1 (mL_many l E hJ hy1 hy3 _ _ _ h_q_63) wd_11_19 wd_11_20 wd_10_7 wd_11_21 hdL_many ⟨Nat.le_trans (by decide) hR.1, Nat.le_trans (by decide) hR.2⟩ ⟨Nat.zero_le _, Nat.zero_le _⟩ (Nat.le_of_ble_eq_true rfl) rfl rfl dL_told_143 (fun H locs Z => ?_)
                  refine lv_icmp_ne (tgt := 208) hx hb dL_told_146 (by decide) (fun h_64 => ?_) (fun h_64 => ?_)
                  · replace hT := mx_f hT h_64
                    cases hT
                    exact k1 rfl _ _ _ Z (lv_sub hl [2, 3, 4, 5] rfl)
                  · replace hT := mx_t hT h_64
                    refine lv_aload_n hx hb dL_told_149 rfl (lv_at hl 2 rfl) ?_
                    refine lv_iload hx hb dL_told_150 (lv_at hl 6 rfl) ?_
                    refine lv_iconst (v := (4 : Int32)) hx hb dL_told_152 (by decide) ?_
                    obtain ⟨q_65, h_q_65, hT⟩ := mx_bind hT
                    refine mx_callV (As := [.int (w6), .int ((4 : Int32))]) (rest := []) (st1 := [.int (q_65)]) (C := RX5) (T := TX5) (N := 6) (ci := 5) X Z hl.1 (c5_segment l E hJ hy0 _ _ _ _ h_q_65) wd_10_9 wd_10_10 wd_10_11 wd_1_2 wd_10_12 hd5_segment ⟨Nat.le_trans (by decide) hR.1, Nat.le_trans (by decide) hR.2⟩ ⟨Nat.zero_le _, Nat.zero_le _⟩ hy0.i (hy0.c _) rfl (Nat.le_of_ble_eq_true rfl) rfl rfl dL_told_153 (fun H locs Z => ?_)
                    refine lv_iload hx hb dL_told_156 (lv_at hl 6 rfl) ?_
                    refine lv_aload_n hx hb dL_told_158 rfl (lv_at hl 3 rfl) ?_
                    refine lv_aload_n hx hb dL_told_159 rfl (lv_at hl 5 rfl) ?_
                    obtain ⟨q_66, h_q_66, hT⟩ := mx_bind hT
                    refine mx_callS (As := [.int (w6), .ref (mad E (y1)), .ref (mad E (y3))]) (rest := [.int (q_65)]) (st1 := [.int (q_66), .int (q_65)]) X Z hl.1 (mL_there l E hJ hy1 hy3 _ _ _ h_q_66) wd_11_22 wd_11_23 wd_10_7 wd_12_0 hdL_there ⟨Nat.le_trans (by decide) hR.1, Nat.le_trans (by decide) hR.2⟩ ⟨Nat.zero_le _, Nat.zero_le _⟩ (Nat.le_of_ble_eq_true rfl) rfl rfl dL_told_160 (fun H locs Z => ?_)
                    refine lv_sipush (v := (10000 : Int32)) hx hb dL_told_163 (by decide) ?_
                    refine lv_idiv hx hb dL_told_166 (by decide) ?_
                    refine lv_icmp_ne (tgt := 208) hx hb dL_told_167 (by decide) (fun h_67 => ?_) (fun h_67 => ?_)
                    · replace hT := mx_f hT h_67
                      cases hT
                      exact k1 rfl _ _ _ Z (lv_sub hl [2, 3, 4, 5] rfl)
                    · replace hT := mx_t hT h_67
                      refine lv_aload_n hx hb dL_told_170 rfl (lv_at hl 2 rfl) ?_
                      refine lv_iload hx hb dL_told_171 (lv_at hl 6 rfl) ?_
                      refine lv_iconst (v := (5 : Int32)) hx hb dL_told_173 (by decide) ?_
                      obtain ⟨q_68, h_q_68, hT⟩ := mx_bind hT
                      refine mx_callV (As := [.int (w6), .int ((5 : Int32))]) (rest := []) (st1 := [.int (q_68)]) (C := RX5) (T := TX5) (N := 6) (ci := 5) X Z hl.1 (c5_segment l E hJ hy0 _ _ _ _ h_q_68) wd_10_9 wd_10_10 wd_10_11 wd_1_2 wd_10_12 hd5_segment ⟨Nat.le_trans (by decide) hR.1, Nat.le_trans (by decide) hR.2⟩ ⟨Nat.zero_le _, Nat.zero_le _⟩ hy0.i (hy0.c _) rfl (Nat.le_of_ble_eq_true rfl) rfl rfl dL_told_174 (fun H locs Z => ?_)
                      refine lv_iload hx hb dL_told_177 (lv_at hl 6 rfl) ?_
                      refine lv_aload_n hx hb dL_told_179 rfl (lv_at hl 3 rfl) ?_
                      refine lv_aload_n hx hb dL_told_180 rfl (lv_at hl 4 rfl) ?_
                      obtain ⟨q_69, h_q_69, hT⟩ := mx_bind hT
                      refine mx_callS (As := [.int (w6), .ref (mad E (y1)), .ref (mad E (y2))]) (rest := [.int (q_68)]) (st1 := [.int (q_69), .int (q_68)]) X Z hl.1 (mL_room l E hJ hy1 hy2 _ _ _ h_q_69) wd_12_4 wd_12_5 wd_10_7 wd_12_6 hdL_room ⟨Nat.le_trans (by decide) hR.1, Nat.le_trans (by decide) hR.2⟩ ⟨Nat.zero_le _, Nat.zero_le _⟩ (Nat.le_of_ble_eq_true rfl) rfl rfl dL_told_181 (fun H locs Z => ?_)
                      refine lv_iload hx hb dL_told_184 (lv_at hl 6 rfl) ?_
                      refine lv_aload_n hx hb dL_told_186 rfl (lv_at hl 3 rfl) ?_
                      refine lv_aload_n hx hb dL_told_187 rfl (lv_at hl 5 rfl) ?_
                      obtain ⟨q_70, h_q_70, hT⟩ := mx_bind hT
                      refine mx_callS (As := [.int (w6), .ref (mad E (y1)), .ref (mad E (y3))]) (rest := [.int (q_69), .int (q_68)]) (st1 := [.int (q_70), .int (q_69), .int (q_68)]) X Z hl.1 (mL_many l E hJ hy1 hy3 _ _ _ h_q_70) wd_11_19 wd_11_20 wd_10_7 wd_11_21 hdL_many ⟨Nat.le_trans (by decide) hR.1, Nat.le_trans (by decide) hR.2⟩ ⟨Nat.zero_le _, Nat.zero_le _⟩ (Nat.le_of_ble_eq_true rfl) rfl rfl dL_told_188 (fun H locs Z => ?_)
                      refine lv_isub hx hb dL_told_191 ?_
                      refine lv_icmp_ne (tgt := 208) hx hb dL_told_192 (by decide) (fun h_71 => ?_) (fun h_71 => ?_)
                      · replace hT := mx_f hT h_71
                        cases hT
                        exact k1 rfl _ _ _ Z (lv_sub hl [2, 3, 4, 5] rfl)
                      · replace hT := mx_t hT h_71
                        refine lv_aload_n hx hb dL_told_195 rfl (lv_at hl 2 rfl) ?_
                        refine lv_iload hx hb dL_told_196 (lv_at hl 6 rfl) ?_
                        refine lv_bipush (v := (6 : Int32)) hx hb dL_told_198 (by decide) ?_
                        obtain ⟨q_72, h_q_72, hT⟩ := mx_bind hT
                        refine mx_callV (As := [.int (w6), .int ((6 : Int32))]) (rest := []) (st1 := [.int (q_72)]) (C := RX5) (T := TX5) (N := 6) (ci := 5) X Z hl.1 (c5_segment l E hJ hy0 _ _ _ _ h_q_72) wd_10_9 wd_10_10 wd_10_11 wd_1_2 wd_10_12 hd5_segment ⟨Nat.le_trans (by decide) hR.1, Nat.le_trans (by decide) hR.2⟩ ⟨Nat.zero_le _, Nat.zero_le _⟩ hy0.i (hy0.c _) rfl (Nat.le_of_ble_eq_true rfl) rfl rfl dL_told_200 (fun H locs Z => ?_)
                        refine lv_iload hx hb dL_told_203 (lv_at hl 8 rfl) ?_
                        refine lv_icmp_eq (tgt := 210) hx hb dL_told_205 (by decide) (fun h_73 => ?_) (fun h_73 => ?_)
                        · replace hT := mx_t hT h_73
                          obtain ⟨v_74, e_v_74, hT⟩ := mx_nm hT
                          refine lv_iinc (v := v_74) (lv' := [(6, .int (v_74)), (5, .int (v_52)), (4, .int (v_10)), (0, .ref (mad E (240))), (1, .ref (mad E (y1))), (2, .ref (mad E (y2))), (3, .ref (mad E (y3))), (7, .int (v_4)), (8, .int (q_9))]) hx hb dL_told_210 hl (k := 6) rfl (by rw [← e_v_74]; rfl) (by decide) rfl (fun ls hl => ?_)
                          refine lv_goto (tgt := 9) hx hb dL_told_213 (by decide) ?_
                          exact ih _ _ _ _ _ _ _ _ hT Z (lv_sub hl [3, 4, 5, 6, 2, 1, 0] rfl) k0 k1
                        · replace hT := mx_f hT h_73
                          cases hT
                          exact k1 rfl _ _ _ Z (lv_sub hl [2, 3, 4, 5] rfl)
            · replace hT := mx_f hT h_58
              refine lv_iconst (v := (1 : Int32)) hx hb dL_told_112 (by decide) ?_
              refine lv_goto (tgt := 117) hx hb dL_told_113 (by decide) ?_
              refine lv_icmp_ne (tgt := 208) hx hb dL_told_117 (by decide) (fun h_75 => ?_) (fun h_75 => ?_)
              · replace hT := mx_f hT h_75
                cases hT
                exact k1 rfl _ _ _ Z (lv_sub hl [2, 3, 4, 5] rfl)
              · replace hT := mx_t hT h_75
                refine lv_aload_n hx hb dL_told_120 rfl (lv_at hl 2 rfl) ?_
                refine lv_iload hx hb dL_told_121 (lv_at hl 6 rfl) ?_
                refine lv_iconst (v := (2 : Int32)) hx hb dL_told_123 (by decide) ?_
                obtain ⟨q_76, h_q_76, hT⟩ := mx_bind hT
                refine mx_callV (As := [.int (w6), .int ((2 : Int32))]) (rest := []) (st1 := [.int (q_76)]) (C := RX5) (T := TX5) (N := 6) (ci := 5) X Z hl.1 (c5_segment l E hJ hy0 _ _ _ _ h_q_76) wd_10_9 wd_10_10 wd_10_11 wd_1_2 wd_10_12 hd5_segment ⟨Nat.le_trans (by decide) hR.1, Nat.le_trans (by decide) hR.2⟩ ⟨Nat.zero_le _, Nat.zero_le _⟩ hy0.i (hy0.c _) rfl (Nat.le_of_ble_eq_true rfl) rfl rfl dL_told_124 (fun H locs Z => ?_)
                refine lv_iload hx hb dL_told_127 (lv_at hl 7 rfl) ?_
                refine lv_icmp_ne (tgt := 208) hx hb dL_told_129 (by decide) (fun h_77 => ?_) (fun h_77 => ?_)
                · replace hT := mx_f hT h_77
                  cases hT
                  exact k1 rfl _ _ _ Z (lv_sub hl [2, 3, 4, 5] rfl)
                · replace hT := mx_t hT h_77
                  refine lv_aload_n hx hb dL_told_132 rfl (lv_at hl 2 rfl) ?_
                  refine lv_iload hx hb dL_told_133 (lv_at hl 6 rfl) ?_
                  refine lv_iconst (v := (3 : Int32)) hx hb dL_told_135 (by decide) ?_
                  obtain ⟨q_78, h_q_78, hT⟩ := mx_bind hT
                  refine mx_callV (As := [.int (w6), .int ((3 : Int32))]) (rest := []) (st1 := [.int (q_78)]) (C := RX5) (T := TX5) (N := 6) (ci := 5) X Z hl.1 (c5_segment l E hJ hy0 _ _ _ _ h_q_78) wd_10_9 wd_10_10 wd_10_11 wd_1_2 wd_10_12 hd5_segment ⟨Nat.le_trans (by decide) hR.1, Nat.le_trans (by decide) hR.2⟩ ⟨Nat.zero_le _, Nat.zero_le _⟩ hy0.i (hy0.c _) rfl (Nat.le_of_ble_eq_true rfl) rfl rfl dL_told_136 (fun H locs Z => ?_)
                  refine lv_iload hx hb dL_told_139 (lv_at hl 6 rfl) ?_
                  refine lv_aload_n hx hb dL_told_141 rfl (lv_at hl 3 rfl) ?_
                  refine lv_aload_n hx hb dL_told_142 rfl (lv_at hl 5 rfl) ?_
                  obtain ⟨q_79, h_q_79, hT⟩ := mx_bind hT
                  refine mx_callS (As := [.int (w6), .ref (mad E (y1)), .ref (mad E (y3))]) (rest := [.int (q_78)]) (st1 := [.int (q_79), .int (q_78)]) X Z hl.1 (mL_many l E hJ hy1 hy3 _ _ _ h_q_79) wd_11_19 wd_11_20 wd_10_7 wd_11_21 hdL_many ⟨Nat.le_trans (by decide) hR.1, Nat.le_trans (by decide) hR.2⟩ ⟨Nat.zero_le _, Nat.zero_le _⟩ (Nat.le_of_ble_eq_true rfl) rfl rfl dL_told_143 (fun H locs Z => ?_)
                  refine lv_icmp_ne (tgt := 208) hx hb dL_told_146 (by decide) (fun h_80 => ?_) (fun h_80 => ?_)
                  · replace hT := mx_f hT h_80
                    cases hT
                    exact k1 rfl _ _ _ Z (lv_sub hl [2, 3, 4, 5] rfl)
                  · replace hT := mx_t hT h_80
                    refine lv_aload_n hx hb dL_told_149 rfl (lv_at hl 2 rfl) ?_
                    refine lv_iload hx hb dL_told_150 (lv_at hl 6 rfl) ?_
                    refine lv_iconst (v := (4 : Int32)) hx hb dL_told_152 (by decide) ?_
                    obtain ⟨q_81, h_q_81, hT⟩ := mx_bind hT
                    refine mx_callV (As := [.int (w6), .int ((4 : Int32))]) (rest := []) (st1 := [.int (q_81)]) (C := RX5) (T := TX5) (N := 6) (ci := 5) X Z hl.1 (c5_segment l E hJ hy0 _ _ _ _ h_q_81) wd_10_9 wd_10_10 wd_10_11 wd_1_2 wd_10_12 hd5_segment ⟨Nat.le_trans (by decide) hR.1, Nat.le_trans (by decide) hR.2⟩ ⟨Nat.zero_le _, Nat.zero_le _⟩ hy0.i (hy0.c _) rfl (Nat.le_of_ble_eq_true rfl) rfl rfl dL_told_153 (fun H locs Z => ?_)
                    refine lv_iload hx hb dL_told_156 (lv_at hl 6 rfl) ?_
                    refine lv_aload_n hx hb dL_told_158 rfl (lv_at hl 3 rfl) ?_
                    refine lv_aload_n hx hb dL_told_159 rfl (lv_at hl 5 rfl) ?_
                    obtain ⟨q_82, h_q_82, hT⟩ := mx_bind hT
                    refine mx_callS (As := [.int (w6), .ref (mad E (y1)), .ref (mad E (y3))]) (rest := [.int (q_81)]) (st1 := [.int (q_82), .int (q_81)]) X Z hl.1 (mL_there l E hJ hy1 hy3 _ _ _ h_q_82) wd_11_22 wd_11_23 wd_10_7 wd_12_0 hdL_there ⟨Nat.le_trans (by decide) hR.1, Nat.le_trans (by decide) hR.2⟩ ⟨Nat.zero_le _, Nat.zero_le _⟩ (Nat.le_of_ble_eq_true rfl) rfl rfl dL_told_160 (fun H locs Z => ?_)
                    refine lv_sipush (v := (10000 : Int32)) hx hb dL_told_163 (by decide) ?_
                    refine lv_idiv hx hb dL_told_166 (by decide) ?_
                    refine lv_icmp_ne (tgt := 208) hx hb dL_told_167 (by decide) (fun h_83 => ?_) (fun h_83 => ?_)
                    · replace hT := mx_f hT h_83
                      cases hT
                      exact k1 rfl _ _ _ Z (lv_sub hl [2, 3, 4, 5] rfl)
                    · replace hT := mx_t hT h_83
                      refine lv_aload_n hx hb dL_told_170 rfl (lv_at hl 2 rfl) ?_
                      refine lv_iload hx hb dL_told_171 (lv_at hl 6 rfl) ?_
                      refine lv_iconst (v := (5 : Int32)) hx hb dL_told_173 (by decide) ?_
                      obtain ⟨q_84, h_q_84, hT⟩ := mx_bind hT
                      refine mx_callV (As := [.int (w6), .int ((5 : Int32))]) (rest := []) (st1 := [.int (q_84)]) (C := RX5) (T := TX5) (N := 6) (ci := 5) X Z hl.1 (c5_segment l E hJ hy0 _ _ _ _ h_q_84) wd_10_9 wd_10_10 wd_10_11 wd_1_2 wd_10_12 hd5_segment ⟨Nat.le_trans (by decide) hR.1, Nat.le_trans (by decide) hR.2⟩ ⟨Nat.zero_le _, Nat.zero_le _⟩ hy0.i (hy0.c _) rfl (Nat.le_of_ble_eq_true rfl) rfl rfl dL_told_174 (fun H locs Z => ?_)
                      refine lv_iload hx hb dL_told_177 (lv_at hl 6 rfl) ?_
                      refine lv_aload_n hx hb dL_told_179 rfl (lv_at hl 3 rfl) ?_
                      refine lv_aload_n hx hb dL_told_180 rfl (lv_at hl 4 rfl) ?_
                      obtain ⟨q_85, h_q_85, hT⟩ := mx_bind hT
                      refine mx_callS (As := [.int (w6), .ref (mad E (y1)), .ref (mad E (y2))]) (rest := [.int (q_84)]) (st1 := [.int (q_85), .int (q_84)]) X Z hl.1 (mL_room l E hJ hy1 hy2 _ _ _ h_q_85) wd_12_4 wd_12_5 wd_10_7 wd_12_6 hdL_room ⟨Nat.le_trans (by decide) hR.1, Nat.le_trans (by decide) hR.2⟩ ⟨Nat.zero_le _, Nat.zero_le _⟩ (Nat.le_of_ble_eq_true rfl) rfl rfl dL_told_181 (fun H locs Z => ?_)
                      refine lv_iload hx hb dL_told_184 (lv_at hl 6 rfl) ?_
                      refine lv_aload_n hx hb dL_told_186 rfl (lv_at hl 3 rfl) ?_
                      refine lv_aload_n hx hb dL_told_187 rfl (lv_at hl 5 rfl) ?_
                      obtain ⟨q_86, h_q_86, hT⟩ := mx_bind hT
                      refine mx_callS (As := [.int (w6), .ref (mad E (y1)), .ref (mad E (y3))]) (rest := [.int (q_85), .int (q_84)]) (st1 := [.int (q_86), .int (q_85), .int (q_84)]) X Z hl.1 (mL_many l E hJ hy1 hy3 _ _ _ h_q_86) wd_11_19 wd_11_20 wd_10_7 wd_11_21 hdL_many ⟨Nat.le_trans (by decide) hR.1, Nat.le_trans (by decide) hR.2⟩ ⟨Nat.zero_le _, Nat.zero_le _⟩ (Nat.le_of_ble_eq_true rfl) rfl rfl dL_told_188 (fun H locs Z => ?_)
                      refine lv_isub hx hb dL_told_191 ?_
                      refine lv_icmp_ne (tgt := 208) hx hb dL_told_192 (by decide) (fun h_87 => ?_) (fun h_87 => ?_)
                      · replace hT := mx_f hT h_87
                        cases hT
                        exact k1 rfl _ _ _ Z (lv_sub hl [2, 3, 4, 5] rfl)
                      · replace hT := mx_t hT h_87
                        refine lv_aload_n hx hb dL_told_195 rfl (lv_at hl 2 rfl) ?_
                        refine lv_iload hx hb dL_told_196 (lv_at hl 6 rfl) ?_
                        refine lv_bipush (v := (6 : Int32)) hx hb dL_told_198 (by decide) ?_
                        obtain ⟨q_88, h_q_88, hT⟩ := mx_bind hT
                        refine mx_callV (As := [.int (w6), .int ((6 : Int32))]) (rest := []) (st1 := [.int (q_88)]) (C := RX5) (T := TX5) (N := 6) (ci := 5) X Z hl.1 (c5_segment l E hJ hy0 _ _ _ _ h_q_88) wd_10_9 wd_10_10 wd_10_11 wd_1_2 wd_10_12 hd5_segment ⟨Nat.le_trans (by decide) hR.1, Nat.le_trans (by decide) hR.2⟩ ⟨Nat.zero_le _, Nat.zero_le _⟩ hy0.i (hy0.c _) rfl (Nat.le_of_ble_eq_true rfl) rfl rfl dL_told_200 (fun H locs Z => ?_)
                        refine lv_iload hx hb dL_told_203 (lv_at hl 8 rfl) ?_
                        refine lv_icmp_eq (tgt := 210) hx hb dL_told_205 (by decide) (fun h_89 => ?_) (fun h_89 => ?_)
                        · replace hT := mx_t hT h_89
                          obtain ⟨v_90, e_v_90, hT⟩ := mx_nm hT
                          refine lv_iinc (v := v_90) (lv' := [(6, .int (v_90)), (5, .int (v_52)), (4, .int (v_10)), (0, .ref (mad E (240))), (1, .ref (mad E (y1))), (2, .ref (mad E (y2))), (3, .ref (mad E (y3))), (7, .int (v_4)), (8, .int (q_9))]) hx hb dL_told_210 hl (k := 6) rfl (by rw [← e_v_90]; rfl) (by decide) rfl (fun ls hl => ?_)
                          refine lv_goto (tgt := 9) hx hb dL_told_213 (by decide) ?_
                          exact ih _ _ _ _ _ _ _ _ hT Z (lv_sub hl [3, 4, 5, 6, 2, 1, 0] rfl) k0 k1
                        · replace hT := mx_f hT h_89
                          cases hT
                          exact k1 rfl _ _ _ Z (lv_sub hl [2, 3, 4, 5] rfl)
set_option maxHeartbeats 4000000 in
set_option maxRecDepth 100000 in
theorem kL_told_230 {p : Program} {l : Launch} {e : Env} {R : Room} {s : State} {m : MethodId} {args : Array Value} {below : List Frame} {meth : Method} {cd : Code} {Q : State → Prop} {E : mE} (X : mX p s m args cd cL_told 9 RL E) (hR : 4 ≤ R.frames ∧ 99 ≤ R.locals) (hJ : mJ E) {y1 : Nat} {n1 : Nat} {y2 : Nat} {n2 : Nat} {y3 : Nat} {n3 : Nat} (hy0 : mAl E 240) (hy1 : mAi E y1 1 n1) (hy2 : mAi E y2 1 n2) (hy3 : mAi E y3 1 n3) (y4 : Int32) (y5 : Int32) (y6 : Int32) : ∀ (n : Nat) (w7 : Int32) (G : mM) (H : Heap) (locs : List Loc) (ls : Array Slot) (r : Nat), xL_told_L230 y1 n1 y2 n2 y3 n3 y4 y5 y6 n w7 G = some r → mZ E s.heap H locs G → lv_has ls 9 [(0, .ref (mad E (240))), (1, .ref (mad E (y1))), (2, .ref (mad E (y2))), (3, .ref (mad E (y3))), (4, .int (y4)), (5, .int (y5)), (6, .int (y6)), (7, .int (w7))] → (r = 0 → ∀ (H : Heap) (locs : List Loc) (ls : Array Slot), mZ E s.heap H locs G → lv_has ls 9 [(0, .ref (mad E (240))), (1, .ref (mad E (y1))), (2, .ref (mad E (y2))), (3, .ref (mad E (y3))), (4, .int (y4)), (5, .int (y5)), (6, .int (y6))] → W p l e R s m args below meth cd H locs 0 0 Q (F0 m 266 ls [])) → (r = 1 → ∀ (H : Heap) (locs : List Loc) (ls : Array Slot), mZ E s.heap H locs G → lv_has ls 9 [(0, .ref (mad E (240))), (1, .ref (mad E (y1))), (2, .ref (mad E (y2))), (3, .ref (mad E (y3))), (4, .int (y4)), (5, .int (y5)), (6, .int (y6))] → W p l e R s m args below meth cd H locs 0 0 Q (F0 m 258 ls [])) → W p l e R s m args below meth cd H locs 0 0 Q (F0 m 230 ls []) := by
  have hx := X.1
  have hb := X.2.1
  have hown := X.2.2.2.1
  have hts := X.2.2.2.2.1
  intro n
  induction n with
  | zero =>
    intro w7 G H locs ls r hT
    rw [xL_told_L230] at hT
    cases hT
  | succ n ih =>
    intro w7 G H locs ls r hT Z hl k0 k1
    rw [xL_told_L230] at hT
    refine lv_iload hx hb dL_told_230 (lv_at hl 7 rfl) ?_
    refine lv_bipush (v := (9 : Int32)) hx hb dL_told_232 (by decide) ?_
    refine lv_icmp_ge (tgt := 266) hx hb dL_told_234 (by decide) (fun h_94 => ?_) (fun h_94 => ?_)
    · replace hT := mx_t hT h_94
      cases hT
      exact k0 rfl _ _ _ Z (lv_sub hl [0, 1, 2, 3, 4, 5, 6] rfl)
    · replace hT := mx_f hT h_94
      refine lv_aload_n hx hb dL_told_237 rfl (lv_at hl 0 rfl) ?_
      refine lv_iload hx hb dL_told_238 (lv_at hl 6 rfl) ?_
      refine lv_iload hx hb dL_told_240 (lv_at hl 7 rfl) ?_
      obtain ⟨q_95, h_q_95, hT⟩ := mx_bind hT
      refine mx_callV (As := [.int (y6), .int (w7)]) (rest := []) (st1 := [.int (q_95)]) (C := RX5) (T := TX5) (N := 6) (ci := 5) X Z hl.1 (c5_train l E hJ hy0 _ _ _ _ h_q_95) wd_12_7 wd_12_8 wd_12_9 wd_1_2 wd_12_10 hd5_train ⟨Nat.le_trans (by decide) hR.1, Nat.le_trans (by decide) hR.2⟩ ⟨Nat.zero_le _, Nat.zero_le _⟩ hy0.i (hy0.c _) rfl (Nat.le_of_ble_eq_true rfl) rfl rfl dL_told_242 (fun H locs Z => ?_)
      refine lv_aload_n hx hb dL_told_245 rfl (lv_at hl 3 rfl) ?_
      refine lv_bipush (v := (10 : Int32)) hx hb dL_told_246 (by decide) ?_
      refine lv_iload hx hb dL_told_248 (lv_at hl 6 rfl) ?_
      refine lv_imul hx hb dL_told_250 ?_
      refine lv_iload hx hb dL_told_251 (lv_at hl 7 rfl) ?_
      refine lv_iadd hx hb dL_told_253 ?_
      obtain ⟨h_96, hT⟩ := mx_chk hT
      refine mx_iald X Z hy3 h_96 dL_told_254 ?_
      refine lv_icmp_eq (tgt := 260) hx hb dL_told_255 (by decide) (fun h_97 => ?_) (fun h_97 => ?_)
      · replace hT := mx_t hT h_97
        obtain ⟨v_98, e_v_98, hT⟩ := mx_nm hT
        refine lv_iinc (v := v_98) (lv' := [(7, .int (v_98)), (0, .ref (mad E (240))), (1, .ref (mad E (y1))), (2, .ref (mad E (y2))), (3, .ref (mad E (y3))), (4, .int (y4)), (5, .int (y5)), (6, .int (y6))]) hx hb dL_told_260 hl (k := 7) rfl (by rw [← e_v_98]; rfl) (by decide) rfl (fun ls hl => ?_)
        refine lv_goto (tgt := 230) hx hb dL_told_263 (by decide) ?_
        exact ih _ _ _ _ _ _ hT Z (lv_sub hl [1, 2, 3, 4, 5, 6, 7, 0] rfl) k0 k1
      · replace hT := mx_f hT h_97
        cases hT
        exact k1 rfl _ _ _ Z (lv_sub hl [0, 1, 2, 3, 4, 5, 6] rfl)
set_option maxHeartbeats 4000000 in
set_option maxRecDepth 100000 in
theorem kL_told_219 {p : Program} {l : Launch} {e : Env} {R : Room} {s : State} {m : MethodId} {args : Array Value} {below : List Frame} {meth : Method} {cd : Code} {Q : State → Prop} {E : mE} (X : mX p s m args cd cL_told 9 RL E) (hR : 4 ≤ R.frames ∧ 99 ≤ R.locals) (hJ : mJ E) {y1 : Nat} {n1 : Nat} {y2 : Nat} {n2 : Nat} {y3 : Nat} {n3 : Nat} (hy0 : mAl E 240) (hy1 : mAi E y1 1 n1) (hy2 : mAi E y2 1 n2) (hy3 : mAi E y3 1 n3) (y4 : Int32) (y5 : Int32) : ∀ (n : Nat) (w6 : Int32) (G : mM) (H : Heap) (locs : List Loc) (ls : Array Slot) (r : Nat), xL_told_L219 y1 n1 y2 n2 y3 n3 y4 y5 n w6 G = some r → mZ E s.heap H locs G → lv_has ls 9 [(0, .ref (mad E (240))), (1, .ref (mad E (y1))), (2, .ref (mad E (y2))), (3, .ref (mad E (y3))), (4, .int (y4)), (5, .int (y5)), (6, .int (w6))] → (r = 0 → ∀ (H : Heap) (locs : List Loc) (ls : Array Slot), mZ E s.heap H locs G → lv_has ls 9 [(0, .ref (mad E (240))), (1, .ref (mad E (y1))), (2, .ref (mad E (y2))), (3, .ref (mad E (y3))), (4, .int (y4)), (5, .int (y5))] → W p l e R s m args below meth cd H locs 0 0 Q (F0 m 308 ls [])) → (r = 1 → ∀ (H : Heap) (locs : List Loc) (ls : Array Slot), mZ E s.heap H locs G → lv_has ls 9 [(0, .ref (mad E (240))), (1, .ref (mad E (y1))), (2, .ref (mad E (y2))), (3, .ref (mad E (y3))), (4, .int (y4)), (5, .int (y5))] → W p l e R s m args below meth cd H locs 0 0 Q (F0 m 258 ls [])) → (r = 2 → ∀ (H : Heap) (locs : List Loc) (ls : Array Slot), mZ E s.heap H locs G → lv_has ls 9 [(0, .ref (mad E (240))), (1, .ref (mad E (y1))), (2, .ref (mad E (y2))), (3, .ref (mad E (y3))), (4, .int (y4)), (5, .int (y5))] → W p l e R s m args below meth cd H locs 0 0 Q (F0 m 300 ls [])) → W p l e R s m args below meth cd H locs 0 0 Q (F0 m 219 ls []) := by
  have hx := X.1
  have hb := X.2.1
  have hown := X.2.2.2.1
  have hts := X.2.2.2.2.1
  intro n
  induction n with
  | zero =>
    intro w6 G H locs ls r hT
    rw [xL_told_L219] at hT
    cases hT
  | succ n ih =>
    intro w6 G H locs ls r hT Z hl k0 k1 k2
    rw [xL_told_L219] at hT
    refine lv_iload hx hb dL_told_219 (lv_at hl 6 rfl) ?_
    refine lv_aload_n hx hb dL_told_221 rfl (lv_at hl 1 rfl) ?_
    refine lv_iconst (v := (1 : Int32)) hx hb dL_told_222 (by decide) ?_
    obtain ⟨h_92, hT⟩ := mx_chk hT
    refine mx_iald X Z hy1 h_92 dL_told_223 ?_
    refine mx_tops (s2 := [.int (G y1 (((1 : Int32)).toNatClampNeg)), .int (w6)]) rfl ?_
    refine lv_icmp_ge (tgt := 308) hx hb dL_told_224 (by decide) (fun h_93 => ?_) (fun h_93 => ?_)
    · replace hT := mx_t hT h_93
      cases hT
      exact k0 rfl _ _ _ Z (lv_sub hl [0, 1, 2, 3, 4, 5] rfl)
    · replace hT := mx_f hT h_93
      refine lv_iconst (v := (0 : Int32)) hx hb dL_told_227 (by decide) ?_
      refine lv_istore (lv' := [(7, .int ((0 : Int32))), (0, .ref (mad E (240))), (1, .ref (mad E (y1))), (2, .ref (mad E (y2))), (3, .ref (mad E (y3))), (4, .int (y4)), (5, .int (y5)), (6, .int (w6))]) hx hb dL_told_228 hl (by decide) rfl (fun ls hl => ?_)
      obtain ⟨q_99, h_q_99, hT⟩ := mx_bind hT
      refine kL_told_230 X hR hJ hy0 hy1 hy2 hy3 _ _ _ _ _ _ _ _ _ _ h_q_99 Z (lv_sub (l' := [(0, .ref (mad E (240))), (1, .ref (mad E (y1))), (2, .ref (mad E (y2))), (3, .ref (mad E (y3))), (4, .int (y4)), (5, .int (y5)), (6, .int (w6)), (7, .int ((0 : Int32)))]) hl [1, 2, 3, 4, 5, 6, 7, 0] rfl) (fun ht H locs ls Z hl => ?_) (fun ht H locs ls Z hl => ?_)
      · replace hT := mx_t hT ht
        refine lv_aload_n hx hb dL_told_266 rfl (lv_at hl 0 rfl) ?_
        refine lv_iload hx hb dL_told_267 (lv_at hl 6 rfl) ?_
        refine lv_bipush (v := (9 : Int32)) hx hb dL_told_269 (by decide) ?_
        obtain ⟨q_100, h_q_100, hT⟩ := mx_bind hT
        refine mx_callV (As := [.int (w6), .int ((9 : Int32))]) (rest := []) (st1 := [.int (q_100)]) (C := RX5) (T := TX5) (N := 6) (ci := 5) X Z hl.1 (c5_train l E hJ hy0 _ _ _ _ h_q_100) wd_12_7 wd_12_8 wd_12_9 wd_1_2 wd_12_10 hd5_train ⟨Nat.le_trans (by decide) hR.1, Nat.le_trans (by decide) hR.2⟩ ⟨Nat.zero_le _, Nat.zero_le _⟩ hy0.i (hy0.c _) rfl (Nat.le_of_ble_eq_true rfl) rfl rfl dL_told_271 (fun H locs Z => ?_)
        refine lv_iload hx hb dL_told_274 (lv_at hl 6 rfl) ?_
        refine lv_aload_n hx hb dL_told_276 rfl (lv_at hl 3 rfl) ?_
        obtain ⟨q_101, h_q_101, hT⟩ := mx_bind hT
        refine mx_callS (As := [.int (w6), .ref (mad E (y3))]) (rest := [.int (q_100)]) (st1 := [.int (q_101), .int (q_100)]) X Z hl.1 (mL_weight l E hJ hy3 _ _ _ h_q_101) wd_12_1 wd_12_2 wd_10_7 wd_12_3 hdL_weight ⟨Nat.le_trans (by decide) hR.1, Nat.le_trans (by decide) hR.2⟩ ⟨Nat.zero_le _, Nat.zero_le _⟩ (Nat.le_of_ble_eq_true rfl) rfl rfl dL_told_277 (fun H locs Z => ?_)
        refine lv_icmp_ne (tgt := 300) hx hb dL_told_280 (by decide) (fun h_102 => ?_) (fun h_102 => ?_)
        · replace hT := mx_f hT h_102
          cases hT
          exact k2 rfl _ _ _ Z (lv_sub hl [0, 1, 2, 3, 4, 5] rfl)
        · replace hT := mx_t hT h_102
          refine lv_aload_n hx hb dL_told_283 rfl (lv_at hl 0 rfl) ?_
          refine lv_iload hx hb dL_told_284 (lv_at hl 6 rfl) ?_
          obtain ⟨q_103, h_q_103, hT⟩ := mx_bind hT
          refine mx_callV (As := [.int (w6)]) (rest := []) (st1 := [.int (q_103)]) (C := RX5) (T := TX5) (N := 6) (ci := 5) X Z hl.1 (c5_why l E hJ hy0 _ _ _ h_q_103) wd_12_22 wd_12_23 wd_13_0 wd_1_2 wd_13_1 hd5_why ⟨Nat.le_trans (by decide) hR.1, Nat.le_trans (by decide) hR.2⟩ ⟨Nat.zero_le _, Nat.zero_le _⟩ hy0.i (hy0.c _) rfl (Nat.le_of_ble_eq_true rfl) rfl rfl dL_told_286 (fun H locs Z => ?_)
          refine lv_iload hx hb dL_told_289 (lv_at hl 6 rfl) ?_
          refine lv_aload_n hx hb dL_told_291 rfl (lv_at hl 1 rfl) ?_
          refine lv_aload_n hx hb dL_told_292 rfl (lv_at hl 2 rfl) ?_
          refine lv_aload_n hx hb dL_told_293 rfl (lv_at hl 3 rfl) ?_
          obtain ⟨q_104, h_q_104, hT⟩ := mx_bind hT
          refine mx_callS (As := [.int (w6), .ref (mad E (y1)), .ref (mad E (y2)), .ref (mad E (y3))]) (rest := [.int (q_103)]) (st1 := [.int (q_104), .int (q_103)]) X Z hl.1 (mL_why l E hJ hy1 hy2 hy3 _ _ _ h_q_104) wd_14_8 wd_14_9 wd_10_7 wd_14_10 hdL_why ⟨Nat.le_trans (by decide) hR.1, Nat.le_trans (by decide) hR.2⟩ ⟨Nat.zero_le _, Nat.zero_le _⟩ (Nat.le_of_ble_eq_true rfl) rfl rfl dL_told_294 (fun H locs Z => ?_)
          refine lv_icmp_eq (tgt := 302) hx hb dL_told_297 (by decide) (fun h_105 => ?_) (fun h_105 => ?_)
          · replace hT := mx_t hT h_105
            obtain ⟨v_106, e_v_106, hT⟩ := mx_nm hT
            refine lv_iinc (v := v_106) (lv' := [(6, .int (v_106)), (0, .ref (mad E (240))), (1, .ref (mad E (y1))), (2, .ref (mad E (y2))), (3, .ref (mad E (y3))), (4, .int (y4)), (5, .int (y5))]) hx hb dL_told_302 hl (k := 6) rfl (by rw [← e_v_106]; rfl) (by decide) rfl (fun ls hl => ?_)
            refine lv_goto (tgt := 219) hx hb dL_told_305 (by decide) ?_
            exact ih _ _ _ _ _ _ hT Z (lv_sub hl [1, 2, 3, 4, 5, 6, 0] rfl) k0 k1 k2
          · replace hT := mx_f hT h_105
            cases hT
            exact k2 rfl _ _ _ Z (lv_sub hl [0, 1, 2, 3, 4, 5] rfl)
      · replace hT := mx_f hT (by rw [ht]; decide)
        cases hT
        exact k1 rfl _ _ _ Z (lv_sub hl [0, 1, 2, 3, 4, 5] rfl)
set_option maxHeartbeats 4000000 in
set_option maxRecDepth 100000 in
theorem kL_told_311 {p : Program} {l : Launch} {e : Env} {R : Room} {s : State} {m : MethodId} {args : Array Value} {below : List Frame} {meth : Method} {cd : Code} {Q : State → Prop} {E : mE} (X : mX p s m args cd cL_told 9 RL E) (hR : 4 ≤ R.frames ∧ 99 ≤ R.locals) (hJ : mJ E) {y1 : Nat} {n1 : Nat} {y2 : Nat} {n2 : Nat} {y3 : Nat} {n3 : Nat} (hy0 : mAl E 240) (hy1 : mAi E y1 1 n1) (hy2 : mAi E y2 1 n2) (hy3 : mAi E y3 1 n3) (y4 : Int32) (y5 : Int32) : ∀ (n : Nat) (w6 : Int32) (G : mM) (H : Heap) (locs : List Loc) (ls : Array Slot) (r : Nat), xL_told_L311 y1 n1 y2 n2 y3 n3 y4 y5 n w6 G = some r → mZ E s.heap H locs G → lv_has ls 9 [(0, .ref (mad E (240))), (1, .ref (mad E (y1))), (2, .ref (mad E (y2))), (3, .ref (mad E (y3))), (4, .int (y4)), (5, .int (y5)), (6, .int (w6))] → (r = 0 → ∀ (H : Heap) (locs : List Loc) (ls : Array Slot), mZ E s.heap H locs G → lv_has ls 9 [(0, .ref (mad E (240))), (1, .ref (mad E (y1))), (2, .ref (mad E (y2))), (3, .ref (mad E (y3))), (4, .int (y4)), (5, .int (y5))] → W p l e R s m args below meth cd H locs 0 0 Q (F0 m 340 ls [])) → (r = 1 → ∀ (H : Heap) (locs : List Loc) (ls : Array Slot), mZ E s.heap H locs G → lv_has ls 9 [(0, .ref (mad E (240))), (1, .ref (mad E (y1))), (2, .ref (mad E (y2))), (3, .ref (mad E (y3))), (4, .int (y4)), (5, .int (y5))] → W p l e R s m args below meth cd H locs 0 0 Q (F0 m 332 ls [])) → W p l e R s m args below meth cd H locs 0 0 Q (F0 m 311 ls []) := by
  have hx := X.1
  have hb := X.2.1
  have hown := X.2.2.2.1
  have hts := X.2.2.2.2.1
  intro n
  induction n with
  | zero =>
    intro w6 G H locs ls r hT
    rw [xL_told_L311] at hT
    cases hT
  | succ n ih =>
    intro w6 G H locs ls r hT Z hl k0 k1
    rw [xL_told_L311] at hT
    refine lv_iload hx hb dL_told_311 (lv_at hl 6 rfl) ?_
    refine lv_iconst (v := (3 : Int32)) hx hb dL_told_313 (by decide) ?_
    refine lv_icmp_ge (tgt := 340) hx hb dL_told_314 (by decide) (fun h_108 => ?_) (fun h_108 => ?_)
    · replace hT := mx_t hT h_108
      cases hT
      exact k0 rfl _ _ _ Z (lv_sub hl [0, 1, 2, 3, 4, 5] rfl)
    · replace hT := mx_f hT h_108
      refine lv_aload_n hx hb dL_told_317 rfl (lv_at hl 0 rfl) ?_
      refine lv_iload hx hb dL_told_318 (lv_at hl 6 rfl) ?_
      obtain ⟨q_109, h_q_109, hT⟩ := mx_bind hT
      refine mx_callV (As := [.int (w6)]) (rest := []) (st1 := [.int (q_109)]) (C := RX5) (T := TX5) (N := 6) (ci := 5) X Z hl.1 (c5_setting l E hJ hy0 _ _ _ h_q_109) wd_14_11 wd_14_12 wd_14_13 wd_1_2 wd_14_14 hd5_setting ⟨Nat.le_trans (by decide) hR.1, Nat.le_trans (by decide) hR.2⟩ ⟨Nat.zero_le _, Nat.zero_le _⟩ hy0.i (hy0.c _) rfl (Nat.le_of_ble_eq_true rfl) rfl rfl dL_told_320 (fun H locs Z => ?_)
      refine lv_aload_n hx hb dL_told_323 rfl (lv_at hl 1 rfl) ?_
      refine lv_iconst (v := (2 : Int32)) hx hb dL_told_324 (by decide) ?_
      refine lv_iload hx hb dL_told_325 (lv_at hl 6 rfl) ?_
      refine lv_iadd hx hb dL_told_327 ?_
      obtain ⟨h_110, hT⟩ := mx_chk hT
      refine mx_iald X Z hy1 h_110 dL_told_328 ?_
      refine lv_icmp_eq (tgt := 334) hx hb dL_told_329 (by decide) (fun h_111 => ?_) (fun h_111 => ?_)
      · replace hT := mx_t hT h_111
        obtain ⟨v_112, e_v_112, hT⟩ := mx_nm hT
        refine lv_iinc (v := v_112) (lv' := [(6, .int (v_112)), (0, .ref (mad E (240))), (1, .ref (mad E (y1))), (2, .ref (mad E (y2))), (3, .ref (mad E (y3))), (4, .int (y4)), (5, .int (y5))]) hx hb dL_told_334 hl (k := 6) rfl (by rw [← e_v_112]; rfl) (by decide) rfl (fun ls hl => ?_)
        refine lv_goto (tgt := 311) hx hb dL_told_337 (by decide) ?_
        exact ih _ _ _ _ _ _ hT Z (lv_sub hl [1, 2, 3, 4, 5, 6, 0] rfl) k0 k1
      · replace hT := mx_f hT h_111
        cases hT
        exact k1 rfl _ _ _ Z (lv_sub hl [0, 1, 2, 3, 4, 5] rfl)
set_option maxHeartbeats 4000000 in
set_option maxRecDepth 100000 in
theorem mL_told (l : Launch) (E : mE) (hJ : mJ E) {a1 : Nat} {n1 : Nat} {a2 : Nat} {n2 : Nat} {a3 : Nat} {n3 : Nat} (hd0 : mAl E 240) (ha1 : mAi E a1 1 n1) (ha2 : mAi E a2 1 n2) (ha3 : mAi E a3 1 n3) (G : mM) (q : Int32) (hT : xL_told a1 n1 a2 n2 a3 n3 G = some q) : mMet l E yL_told cL_told 9 (some .boolean) 4 99 [.ref (mad E (240)), .ref (mad E (a1)), .ref (mad E (a2)), .ref (mad E (a3))] G (some (.int q)) G := by
  refine Met.ofW (cc := cL_told) (maxL := 9) (ret := (some .boolean)) (by decide) rfl ?_
  intro p e s m args below meth cd s₁ B hml hv
  obtain ⟨rfl, hP, hK, hS⟩ := hv
  have X := mx_entry (own := RL) B hml hK hJ hS rfl
  have hx := X.1
  have hb := X.2.1
  have hown := X.2.2.2.1
  have hts := X.2.2.2.2.1
  have hr := B.returns
  have hlocks := B.notSynchronized
  have hR : 4 ≤ (headSpec (mWs yL_told cL_told 9 (some .boolean)) ({ frames := 4, cells := 0, slots := 0, locals := 99 })).room.frames ∧ 99 ≤ (headSpec (mWs yL_told cL_told 9 (some .boolean)) ({ frames := 4, cells := 0, slots := 0, locals := 99 })).room.locals := ⟨Nat.le_refl _, Nat.le_refl _⟩
  have Z : mZ E s.heap s.heap [] G := ⟨hP, va_S.rf⟩
  have hl := lv_entry ([.ref (mad E (240)), .ref (mad E (a1)), .ref (mad E (a2)), .ref (mad E (a3))]) (n := 9) (Nat.le_of_ble_eq_true rfl)
  rw [lg_entry_eq]
  generalize (lg_sl ([.ref (mad E (240)), .ref (mad E (a1)), .ref (mad E (a2)), .ref (mad E (a3))]) ++ List.replicate (9 - (lg_sl ([.ref (mad E (240)), .ref (mad E (a1)), .ref (mad E (a2)), .ref (mad E (a3))])).length) Slot.unset).toArray = ls at hl ⊢
  have hl : lv_has ls 9 [(0, .ref (mad E (240))), (1, .ref (mad E (a1))), (2, .ref (mad E (a2))), (3, .ref (mad E (a3)))] := hl
  unfold xL_told at hT
  refine lv_iconst (v := (0 : Int32)) hx hb dL_told_0 (by decide) ?_
  refine lv_istore (lv' := [(4, .int ((0 : Int32))), (0, .ref (mad E (240))), (1, .ref (mad E (a1))), (2, .ref (mad E (a2))), (3, .ref (mad E (a3)))]) hx hb dL_told_1 hl (by decide) rfl (fun ls hl => ?_)
  refine lv_iconst (v := (0 : Int32)) hx hb dL_told_3 (by decide) ?_
  refine lv_istore (lv' := [(5, .int ((0 : Int32))), (4, .int ((0 : Int32))), (0, .ref (mad E (240))), (1, .ref (mad E (a1))), (2, .ref (mad E (a2))), (3, .ref (mad E (a3)))]) hx hb dL_told_4 hl (by decide) rfl (fun ls hl => ?_)
  refine lv_iconst (v := (0 : Int32)) hx hb dL_told_6 (by decide) ?_
  refine lv_istore (lv' := [(6, .int ((0 : Int32))), (5, .int ((0 : Int32))), (4, .int ((0 : Int32))), (0, .ref (mad E (240))), (1, .ref (mad E (a1))), (2, .ref (mad E (a2))), (3, .ref (mad E (a3)))]) hx hb dL_told_7 hl (by decide) rfl (fun ls hl => ?_)
  obtain ⟨q_91, h_q_91, hT⟩ := mx_bind hT
  refine kL_told_9 X hR hJ hd0 ha1 ha2 ha3  _ _ _ _ _ _ _ _ _ h_q_91 Z (lv_sub (l' := [(0, .ref (mad E (240))), (1, .ref (mad E (a1))), (2, .ref (mad E (a2))), (3, .ref (mad E (a3))), (4, .int ((0 : Int32))), (5, .int ((0 : Int32))), (6, .int ((0 : Int32)))]) hl [3, 4, 5, 6, 2, 1, 0] rfl) (fun ht H locs ls Z hl => ?_) (fun ht H locs ls Z hl => ?_)
  · replace hT := mx_t hT ht
    refine lv_iconst (v := (0 : Int32)) hx hb dL_told_216 (by decide) ?_
    refine lv_istore (lv' := [(6, .int ((0 : Int32))), (0, .ref (mad E (240))), (1, .ref (mad E (a1))), (2, .ref (mad E (a2))), (3, .ref (mad E (a3))), (4, .int (q_91.2.1)), (5, .int (q_91.2.2))]) hx hb dL_told_217 hl (by decide) rfl (fun ls hl => ?_)
    obtain ⟨q_107, h_q_107, hT⟩ := mx_bind hT
    refine kL_told_219 X hR hJ hd0 ha1 ha2 ha3 _ _ _ _ _ _ _ _ _ h_q_107 Z (lv_sub (l' := [(0, .ref (mad E (240))), (1, .ref (mad E (a1))), (2, .ref (mad E (a2))), (3, .ref (mad E (a3))), (4, .int (q_91.2.1)), (5, .int (q_91.2.2)), (6, .int ((0 : Int32)))]) hl [1, 2, 3, 4, 5, 6, 0] rfl) (fun ht H locs ls Z hl => ?_) (fun ht H locs ls Z hl => ?_) (fun ht H locs ls Z hl => ?_)
    · replace hT := mx_t hT ht
      refine lv_iconst (v := (0 : Int32)) hx hb dL_told_308 (by decide) ?_
      refine lv_istore (lv' := [(6, .int ((0 : Int32))), (0, .ref (mad E (240))), (1, .ref (mad E (a1))), (2, .ref (mad E (a2))), (3, .ref (mad E (a3))), (4, .int (q_91.2.1)), (5, .int (q_91.2.2))]) hx hb dL_told_309 hl (by decide) rfl (fun ls hl => ?_)
      obtain ⟨q_113, h_q_113, hT⟩ := mx_bind hT
      refine kL_told_311 X hR hJ hd0 ha1 ha2 ha3 _ _ _ _ _ _ _ _ _ h_q_113 Z (lv_sub (l' := [(0, .ref (mad E (240))), (1, .ref (mad E (a1))), (2, .ref (mad E (a2))), (3, .ref (mad E (a3))), (4, .int (q_91.2.1)), (5, .int (q_91.2.2)), (6, .int ((0 : Int32)))]) hl [1, 2, 3, 4, 5, 6, 0] rfl) (fun ht H locs ls Z hl => ?_) (fun ht H locs ls Z hl => ?_)
      · replace hT := mx_t hT ht
        refine lv_aload_n hx hb dL_told_340 rfl (lv_at hl 0 rfl) ?_
        refine lv_iconst (v := (0 : Int32)) hx hb dL_told_341 (by decide) ?_
        obtain ⟨q_114, h_q_114, hT⟩ := mx_bind hT
        refine mx_callV (As := [.int ((0 : Int32))]) (rest := []) (st1 := [.int (q_114)]) (C := RX5) (T := TX5) (N := 6) (ci := 5) X Z hl.1 (c5_account l E hJ hd0 _ _ _ h_q_114) wd_14_18 wd_14_19 wd_14_20 wd_1_2 wd_14_21 hd5_account ⟨Nat.le_trans (by decide) hR.1, Nat.le_trans (by decide) hR.2⟩ ⟨Nat.zero_le _, Nat.zero_le _⟩ hd0.i (hd0.c _) rfl (Nat.le_of_ble_eq_true rfl) rfl rfl dL_told_342 (fun H locs Z => ?_)
        refine lv_aload_n hx hb dL_told_345 rfl (lv_at hl 1 rfl) ?_
        refine lv_iconst (v := (5 : Int32)) hx hb dL_told_346 (by decide) ?_
        obtain ⟨h_115, hT⟩ := mx_chk hT
        refine mx_iald X Z ha1 h_115 dL_told_347 ?_
        refine mx_tops (s2 := [.int (G a1 (((5 : Int32)).toNatClampNeg)), .int (q_114)]) rfl ?_
        refine lv_icmp_ne (tgt := 428) hx hb dL_told_348 (by decide) (fun h_116 => ?_) (fun h_116 => ?_)
        · replace hT := mx_f hT h_116
          refine lv_iconst (v := (0 : Int32)) hx hb dL_told_428 (by decide) ?_
          cases hT
          exact W.zret (v := (0 : Int32)) hx hb hr rfl (fun t ht hW => mx_end Z t ht _) Z.2.2.2 dL_told_429
        · replace hT := mx_t hT h_116
          refine lv_aload_n hx hb dL_told_351 rfl (lv_at hl 0 rfl) ?_
          refine lv_iconst (v := (1 : Int32)) hx hb dL_told_352 (by decide) ?_
          obtain ⟨q_117, h_q_117, hT⟩ := mx_bind hT
          refine mx_callV (As := [.int ((1 : Int32))]) (rest := []) (st1 := [.int (q_117)]) (C := RX5) (T := TX5) (N := 6) (ci := 5) X Z hl.1 (c5_account l E hJ hd0 _ _ _ h_q_117) wd_14_18 wd_14_19 wd_14_20 wd_1_2 wd_14_21 hd5_account ⟨Nat.le_trans (by decide) hR.1, Nat.le_trans (by decide) hR.2⟩ ⟨Nat.zero_le _, Nat.zero_le _⟩ hd0.i (hd0.c _) rfl (Nat.le_of_ble_eq_true rfl) rfl rfl dL_told_353 (fun H locs Z => ?_)
          refine lv_aload_n hx hb dL_told_356 rfl (lv_at hl 1 rfl) ?_
          refine lv_bipush (v := (6 : Int32)) hx hb dL_told_357 (by decide) ?_
          obtain ⟨h_118, hT⟩ := mx_chk hT
          refine mx_iald X Z ha1 h_118 dL_told_359 ?_
          refine mx_tops (s2 := [.int (G a1 (((6 : Int32)).toNatClampNeg)), .int (q_117)]) rfl ?_
          refine lv_icmp_ne (tgt := 428) hx hb dL_told_360 (by decide) (fun h_119 => ?_) (fun h_119 => ?_)
          · replace hT := mx_f hT h_119
            refine lv_iconst (v := (0 : Int32)) hx hb dL_told_428 (by decide) ?_
            cases hT
            exact W.zret (v := (0 : Int32)) hx hb hr rfl (fun t ht hW => mx_end Z t ht _) Z.2.2.2 dL_told_429
          · replace hT := mx_t hT h_119
            refine lv_aload_n hx hb dL_told_363 rfl (lv_at hl 0 rfl) ?_
            refine lv_iconst (v := (2 : Int32)) hx hb dL_told_364 (by decide) ?_
            obtain ⟨q_120, h_q_120, hT⟩ := mx_bind hT
            refine mx_callV (As := [.int ((2 : Int32))]) (rest := []) (st1 := [.int (q_120)]) (C := RX5) (T := TX5) (N := 6) (ci := 5) X Z hl.1 (c5_account l E hJ hd0 _ _ _ h_q_120) wd_14_18 wd_14_19 wd_14_20 wd_1_2 wd_14_21 hd5_account ⟨Nat.le_trans (by decide) hR.1, Nat.le_trans (by decide) hR.2⟩ ⟨Nat.zero_le _, Nat.zero_le _⟩ hd0.i (hd0.c _) rfl (Nat.le_of_ble_eq_true rfl) rfl rfl dL_told_365 (fun H locs Z => ?_)
            refine lv_iconst (v := (2 : Int32)) hx hb dL_told_368 (by decide) ?_
            refine lv_aload_n hx hb dL_told_369 rfl (lv_at hl 1 rfl) ?_
            refine lv_aload_n hx hb dL_told_370 rfl (lv_at hl 3 rfl) ?_
            obtain ⟨q_121, h_q_121, hT⟩ := mx_bind hT
            refine mx_callS (As := [.int ((2 : Int32)), .ref (mad E (a1)), .ref (mad E (a3))]) (rest := [.int (q_120)]) (st1 := [.int (q_121), .int (q_120)]) X Z hl.1 (mL_sum l E hJ ha1 ha3 _ _ _ h_q_121) wd_15_7 wd_15_8 wd_10_7 wd_15_9 hdL_sum ⟨Nat.le_trans (by decide) hR.1, Nat.le_trans (by decide) hR.2⟩ ⟨Nat.zero_le _, Nat.zero_le _⟩ (Nat.le_of_ble_eq_true rfl) rfl rfl dL_told_371 (fun H locs Z => ?_)
            refine lv_icmp_ne (tgt := 428) hx hb dL_told_374 (by decide) (fun h_122 => ?_) (fun h_122 => ?_)
            · replace hT := mx_f hT h_122
              refine lv_iconst (v := (0 : Int32)) hx hb dL_told_428 (by decide) ?_
              cases hT
              exact W.zret (v := (0 : Int32)) hx hb hr rfl (fun t ht hW => mx_end Z t ht _) Z.2.2.2 dL_told_429
            · replace hT := mx_t hT h_122
              refine lv_aload_n hx hb dL_told_377 rfl (lv_at hl 0 rfl) ?_
              refine lv_iconst (v := (3 : Int32)) hx hb dL_told_378 (by decide) ?_
              obtain ⟨q_123, h_q_123, hT⟩ := mx_bind hT
              refine mx_callV (As := [.int ((3 : Int32))]) (rest := []) (st1 := [.int (q_123)]) (C := RX5) (T := TX5) (N := 6) (ci := 5) X Z hl.1 (c5_account l E hJ hd0 _ _ _ h_q_123) wd_14_18 wd_14_19 wd_14_20 wd_1_2 wd_14_21 hd5_account ⟨Nat.le_trans (by decide) hR.1, Nat.le_trans (by decide) hR.2⟩ ⟨Nat.zero_le _, Nat.zero_le _⟩ hd0.i (hd0.c _) rfl (Nat.le_of_ble_eq_true rfl) rfl rfl dL_told_379 (fun H locs Z => ?_)
              refine lv_aload_n hx hb dL_told_382 rfl (lv_at hl 1 rfl) ?_
              refine lv_bipush (v := (7 : Int32)) hx hb dL_told_383 (by decide) ?_
              obtain ⟨h_124, hT⟩ := mx_chk hT
              refine mx_iald X Z ha1 h_124 dL_told_385 ?_
              refine mx_tops (s2 := [.int (G a1 (((7 : Int32)).toNatClampNeg)), .int (q_123)]) rfl ?_
              refine lv_icmp_ne (tgt := 428) hx hb dL_told_386 (by decide) (fun h_125 => ?_) (fun h_125 => ?_)
              · replace hT := mx_f hT h_125
                refine lv_iconst (v := (0 : Int32)) hx hb dL_told_428 (by decide) ?_
                cases hT
                exact W.zret (v := (0 : Int32)) hx hb hr rfl (fun t ht hW => mx_end Z t ht _) Z.2.2.2 dL_told_429
              · replace hT := mx_t hT h_125
                refine lv_aload_n hx hb dL_told_389 rfl (lv_at hl 0 rfl) ?_
                refine lv_iconst (v := (4 : Int32)) hx hb dL_told_390 (by decide) ?_
                obtain ⟨q_126, h_q_126, hT⟩ := mx_bind hT
                refine mx_callV (As := [.int ((4 : Int32))]) (rest := []) (st1 := [.int (q_126)]) (C := RX5) (T := TX5) (N := 6) (ci := 5) X Z hl.1 (c5_account l E hJ hd0 _ _ _ h_q_126) wd_14_18 wd_14_19 wd_14_20 wd_1_2 wd_14_21 hd5_account ⟨Nat.le_trans (by decide) hR.1, Nat.le_trans (by decide) hR.2⟩ ⟨Nat.zero_le _, Nat.zero_le _⟩ hd0.i (hd0.c _) rfl (Nat.le_of_ble_eq_true rfl) rfl rfl dL_told_391 (fun H locs Z => ?_)
                refine lv_aload_n hx hb dL_told_394 rfl (lv_at hl 1 rfl) ?_
                refine lv_bipush (v := (8 : Int32)) hx hb dL_told_395 (by decide) ?_
                obtain ⟨h_127, hT⟩ := mx_chk hT
                refine mx_iald X Z ha1 h_127 dL_told_397 ?_
                refine mx_tops (s2 := [.int (G a1 (((8 : Int32)).toNatClampNeg)), .int (q_126)]) rfl ?_
                refine lv_icmp_ne (tgt := 428) hx hb dL_told_398 (by decide) (fun h_128 => ?_) (fun h_128 => ?_)
                · replace hT := mx_f hT h_128
                  refine lv_iconst (v := (0 : Int32)) hx hb dL_told_428 (by decide) ?_
                  cases hT
                  exact W.zret (v := (0 : Int32)) hx hb hr rfl (fun t ht hW => mx_end Z t ht _) Z.2.2.2 dL_told_429
                · replace hT := mx_t hT h_128
                  refine lv_aload_n hx hb dL_told_401 rfl (lv_at hl 1 rfl) ?_
                  refine lv_iconst (v := (5 : Int32)) hx hb dL_told_402 (by decide) ?_
                  obtain ⟨h_129, hT⟩ := mx_chk hT
                  refine mx_iald X Z ha1 h_129 dL_told_403 ?_
                  refine mx_tops (s2 := [.int (G a1 (((5 : Int32)).toNatClampNeg))]) rfl ?_
                  refine lv_aload_n hx hb dL_told_404 rfl (lv_at hl 1 rfl) ?_
                  refine lv_bipush (v := (6 : Int32)) hx hb dL_told_405 (by decide) ?_
                  obtain ⟨h_130, hT⟩ := mx_chk hT
                  refine mx_iald X Z ha1 h_130 dL_told_407 ?_
                  refine mx_tops (s2 := [.int (G a1 (((6 : Int32)).toNatClampNeg)), .int (G a1 (((5 : Int32)).toNatClampNeg))]) rfl ?_
                  refine lv_iconst (v := (2 : Int32)) hx hb dL_told_408 (by decide) ?_
                  refine lv_aload_n hx hb dL_told_409 rfl (lv_at hl 1 rfl) ?_
                  refine lv_aload_n hx hb dL_told_410 rfl (lv_at hl 3 rfl) ?_
                  obtain ⟨q_131, h_q_131, hT⟩ := mx_bind hT
                  refine mx_callS (As := [.int ((2 : Int32)), .ref (mad E (a1)), .ref (mad E (a3))]) (rest := [.int (G a1 (((6 : Int32)).toNatClampNeg)), .int (G a1 (((5 : Int32)).toNatClampNeg))]) (st1 := [.int (q_131), .int (G a1 (((6 : Int32)).toNatClampNeg)), .int (G a1 (((5 : Int32)).toNatClampNeg))]) X Z hl.1 (mL_sum l E hJ ha1 ha3 _ _ _ h_q_131) wd_15_7 wd_15_8 wd_10_7 wd_15_9 hdL_sum ⟨Nat.le_trans (by decide) hR.1, Nat.le_trans (by decide) hR.2⟩ ⟨Nat.zero_le _, Nat.zero_le _⟩ (Nat.le_of_ble_eq_true rfl) rfl rfl dL_told_411 (fun H locs Z => ?_)
                  refine lv_iadd hx hb dL_told_414 ?_
                  refine lv_aload_n hx hb dL_told_415 rfl (lv_at hl 1 rfl) ?_
                  refine lv_bipush (v := (7 : Int32)) hx hb dL_told_416 (by decide) ?_
                  obtain ⟨h_132, hT⟩ := mx_chk hT
                  refine mx_iald X Z ha1 h_132 dL_told_418 ?_
                  refine mx_tops (s2 := [.int (G a1 (((7 : Int32)).toNatClampNeg)), .int ((G a1 (((6 : Int32)).toNatClampNeg)) + q_131), .int (G a1 (((5 : Int32)).toNatClampNeg))]) rfl ?_
                  refine lv_iadd hx hb dL_told_419 ?_
                  refine lv_aload_n hx hb dL_told_420 rfl (lv_at hl 1 rfl) ?_
                  refine lv_bipush (v := (8 : Int32)) hx hb dL_told_421 (by decide) ?_
                  obtain ⟨h_133, hT⟩ := mx_chk hT
                  refine mx_iald X Z ha1 h_133 dL_told_423 ?_
                  refine mx_tops (s2 := [.int (G a1 (((8 : Int32)).toNatClampNeg)), .int (((G a1 (((6 : Int32)).toNatClampNeg)) + q_131) + (G a1 (((7 : Int32)).toNatClampNeg))), .int (G a1 (((5 : Int32)).toNatClampNeg))]) rfl ?_
                  refine lv_iadd hx hb dL_told_424 ?_
                  refine lv_icmp_eq (tgt := 430) hx hb dL_told_425 (by decide) (fun h_134 => ?_) (fun h_134 => ?_)
                  · replace hT := mx_t hT h_134
                    refine lv_aload_n hx hb dL_told_430 rfl (lv_at hl 0 rfl) ?_
                    refine lv_iconst (v := (0 : Int32)) hx hb dL_told_431 (by decide) ?_
                    obtain ⟨q_135, h_q_135, hT⟩ := mx_bind hT
                    refine mx_callV (As := [.int ((0 : Int32))]) (rest := []) (st1 := [.int (q_135)]) (C := RX5) (T := TX5) (N := 6) (ci := 5) X Z hl.1 (c5_count l E hJ hd0 _ _ _ h_q_135) wd_15_10 wd_15_11 wd_15_12 wd_1_2 wd_15_13 hd5_count ⟨Nat.le_trans (by decide) hR.1, Nat.le_trans (by decide) hR.2⟩ ⟨Nat.zero_le _, Nat.zero_le _⟩ hd0.i (hd0.c _) rfl (Nat.le_of_ble_eq_true rfl) rfl rfl dL_told_432 (fun H locs Z => ?_)
                    refine lv_aload_n hx hb dL_told_435 rfl (lv_at hl 1 rfl) ?_
                    refine lv_iconst (v := (0 : Int32)) hx hb dL_told_436 (by decide) ?_
                    obtain ⟨h_136, hT⟩ := mx_chk hT
                    refine mx_iald X Z ha1 h_136 dL_told_437 ?_
                    refine mx_tops (s2 := [.int (G a1 (((0 : Int32)).toNatClampNeg)), .int (q_135)]) rfl ?_
                    refine lv_icmp_ne (tgt := 525) hx hb dL_told_438 (by decide) (fun h_137 => ?_) (fun h_137 => ?_)
                    · replace hT := mx_f hT h_137
                      refine lv_iconst (v := (0 : Int32)) hx hb dL_told_525 (by decide) ?_
                      cases hT
                      exact W.zret (v := (0 : Int32)) hx hb hr rfl (fun t ht hW => mx_end Z t ht _) Z.2.2.2 dL_told_526
                    · replace hT := mx_t hT h_137
                      refine lv_aload_n hx hb dL_told_441 rfl (lv_at hl 0 rfl) ?_
                      refine lv_iconst (v := (1 : Int32)) hx hb dL_told_442 (by decide) ?_
                      obtain ⟨q_138, h_q_138, hT⟩ := mx_bind hT
                      refine mx_callV (As := [.int ((1 : Int32))]) (rest := []) (st1 := [.int (q_138)]) (C := RX5) (T := TX5) (N := 6) (ci := 5) X Z hl.1 (c5_count l E hJ hd0 _ _ _ h_q_138) wd_15_10 wd_15_11 wd_15_12 wd_1_2 wd_15_13 hd5_count ⟨Nat.le_trans (by decide) hR.1, Nat.le_trans (by decide) hR.2⟩ ⟨Nat.zero_le _, Nat.zero_le _⟩ hd0.i (hd0.c _) rfl (Nat.le_of_ble_eq_true rfl) rfl rfl dL_told_443 (fun H locs Z => ?_)
                      refine lv_aload_n hx hb dL_told_446 rfl (lv_at hl 1 rfl) ?_
                      refine lv_iconst (v := (1 : Int32)) hx hb dL_told_447 (by decide) ?_
                      obtain ⟨h_139, hT⟩ := mx_chk hT
                      refine mx_iald X Z ha1 h_139 dL_told_448 ?_
                      refine mx_tops (s2 := [.int (G a1 (((1 : Int32)).toNatClampNeg)), .int (q_138)]) rfl ?_
                      refine lv_icmp_ne (tgt := 525) hx hb dL_told_449 (by decide) (fun h_140 => ?_) (fun h_140 => ?_)
                      · replace hT := mx_f hT h_140
                        refine lv_iconst (v := (0 : Int32)) hx hb dL_told_525 (by decide) ?_
                        cases hT
                        exact W.zret (v := (0 : Int32)) hx hb hr rfl (fun t ht hW => mx_end Z t ht _) Z.2.2.2 dL_told_526
                      · replace hT := mx_t hT h_140
                        refine lv_aload_n hx hb dL_told_452 rfl (lv_at hl 0 rfl) ?_
                        refine lv_iconst (v := (2 : Int32)) hx hb dL_told_453 (by decide) ?_
                        obtain ⟨q_141, h_q_141, hT⟩ := mx_bind hT
                        refine mx_callV (As := [.int ((2 : Int32))]) (rest := []) (st1 := [.int (q_141)]) (C := RX5) (T := TX5) (N := 6) (ci := 5) X Z hl.1 (c5_count l E hJ hd0 _ _ _ h_q_141) wd_15_10 wd_15_11 wd_15_12 wd_1_2 wd_15_13 hd5_count ⟨Nat.le_trans (by decide) hR.1, Nat.le_trans (by decide) hR.2⟩ ⟨Nat.zero_le _, Nat.zero_le _⟩ hd0.i (hd0.c _) rfl (Nat.le_of_ble_eq_true rfl) rfl rfl dL_told_454 (fun H locs Z => ?_)
                        refine lv_aload_n hx hb dL_told_457 rfl (lv_at hl 1 rfl) ?_
                        refine lv_bipush (v := (9 : Int32)) hx hb dL_told_458 (by decide) ?_
                        obtain ⟨h_142, hT⟩ := mx_chk hT
                        refine mx_iald X Z ha1 h_142 dL_told_460 ?_
                        refine mx_tops (s2 := [.int (G a1 (((9 : Int32)).toNatClampNeg)), .int (q_141)]) rfl ?_
                        refine lv_icmp_ne (tgt := 525) hx hb dL_told_461 (by decide) (fun h_143 => ?_) (fun h_143 => ?_)
                        · replace hT := mx_f hT h_143
                          refine lv_iconst (v := (0 : Int32)) hx hb dL_told_525 (by decide) ?_
                          cases hT
                          exact W.zret (v := (0 : Int32)) hx hb hr rfl (fun t ht hW => mx_end Z t ht _) Z.2.2.2 dL_told_526
                        · replace hT := mx_t hT h_143
                          refine lv_aload_n hx hb dL_told_464 rfl (lv_at hl 0 rfl) ?_
                          refine lv_iconst (v := (3 : Int32)) hx hb dL_told_465 (by decide) ?_
                          obtain ⟨q_144, h_q_144, hT⟩ := mx_bind hT
                          refine mx_callV (As := [.int ((3 : Int32))]) (rest := []) (st1 := [.int (q_144)]) (C := RX5) (T := TX5) (N := 6) (ci := 5) X Z hl.1 (c5_count l E hJ hd0 _ _ _ h_q_144) wd_15_10 wd_15_11 wd_15_12 wd_1_2 wd_15_13 hd5_count ⟨Nat.le_trans (by decide) hR.1, Nat.le_trans (by decide) hR.2⟩ ⟨Nat.zero_le _, Nat.zero_le _⟩ hd0.i (hd0.c _) rfl (Nat.le_of_ble_eq_true rfl) rfl rfl dL_told_466 (fun H locs Z => ?_)
                          refine lv_aload_n hx hb dL_told_469 rfl (lv_at hl 1 rfl) ?_
                          refine lv_aload_n hx hb dL_told_470 rfl (lv_at hl 2 rfl) ?_
                          obtain ⟨q_145, h_q_145, hT⟩ := mx_bind hT
                          refine mx_callS (As := [.ref (mad E (a1)), .ref (mad E (a2))]) (rest := [.int (q_144)]) (st1 := [.int (q_145), .int (q_144)]) X Z hl.1 (mL_sunk l E hJ ha1 ha2 _ _ h_q_145) wd_16_9 wd_16_10 wd_10_7 wd_16_11 hdL_sunk ⟨Nat.le_trans (by decide) hR.1, Nat.le_trans (by decide) hR.2⟩ ⟨Nat.zero_le _, Nat.zero_le _⟩ (Nat.le_of_ble_eq_true rfl) rfl rfl dL_told_471 (fun H locs Z => ?_)
                          refine lv_icmp_ne (tgt := 525) hx hb dL_told_474 (by decide) (fun h_146 => ?_) (fun h_146 => ?_)
                          · replace hT := mx_f hT h_146
                            refine lv_iconst (v := (0 : Int32)) hx hb dL_told_525 (by decide) ?_
                            cases hT
                            exact W.zret (v := (0 : Int32)) hx hb hr rfl (fun t ht hW => mx_end Z t ht _) Z.2.2.2 dL_told_526
                          · replace hT := mx_t hT h_146
                            refine lv_aload_n hx hb dL_told_477 rfl (lv_at hl 0 rfl) ?_
                            refine lv_iconst (v := (4 : Int32)) hx hb dL_told_478 (by decide) ?_
                            obtain ⟨q_147, h_q_147, hT⟩ := mx_bind hT
                            refine mx_callV (As := [.int ((4 : Int32))]) (rest := []) (st1 := [.int (q_147)]) (C := RX5) (T := TX5) (N := 6) (ci := 5) X Z hl.1 (c5_count l E hJ hd0 _ _ _ h_q_147) wd_15_10 wd_15_11 wd_15_12 wd_1_2 wd_15_13 hd5_count ⟨Nat.le_trans (by decide) hR.1, Nat.le_trans (by decide) hR.2⟩ ⟨Nat.zero_le _, Nat.zero_le _⟩ hd0.i (hd0.c _) rfl (Nat.le_of_ble_eq_true rfl) rfl rfl dL_told_479 (fun H locs Z => ?_)
                            refine lv_bipush (v := (7 : Int32)) hx hb dL_told_482 (by decide) ?_
                            refine lv_aload_n hx hb dL_told_484 rfl (lv_at hl 1 rfl) ?_
                            refine lv_aload_n hx hb dL_told_485 rfl (lv_at hl 3 rfl) ?_
                            obtain ⟨q_148, h_q_148, hT⟩ := mx_bind hT
                            refine mx_callS (As := [.int ((7 : Int32)), .ref (mad E (a1)), .ref (mad E (a3))]) (rest := [.int (q_147)]) (st1 := [.int (q_148), .int (q_147)]) X Z hl.1 (mL_sum l E hJ ha1 ha3 _ _ _ h_q_148) wd_15_7 wd_15_8 wd_10_7 wd_15_9 hdL_sum ⟨Nat.le_trans (by decide) hR.1, Nat.le_trans (by decide) hR.2⟩ ⟨Nat.zero_le _, Nat.zero_le _⟩ (Nat.le_of_ble_eq_true rfl) rfl rfl dL_told_486 (fun H locs Z => ?_)
                            refine lv_icmp_ne (tgt := 525) hx hb dL_told_489 (by decide) (fun h_149 => ?_) (fun h_149 => ?_)
                            · replace hT := mx_f hT h_149
                              refine lv_iconst (v := (0 : Int32)) hx hb dL_told_525 (by decide) ?_
                              cases hT
                              exact W.zret (v := (0 : Int32)) hx hb hr rfl (fun t ht hW => mx_end Z t ht _) Z.2.2.2 dL_told_526
                            · replace hT := mx_t hT h_149
                              refine lv_aload_n hx hb dL_told_492 rfl (lv_at hl 0 rfl) ?_
                              refine lv_bipush (v := (7 : Int32)) hx hb dL_told_493 (by decide) ?_
                              obtain ⟨q_150, h_q_150, hT⟩ := mx_bind hT
                              refine mx_callV (As := [.int ((7 : Int32))]) (rest := []) (st1 := [.int (q_150)]) (C := RX5) (T := TX5) (N := 6) (ci := 5) X Z hl.1 (c5_count l E hJ hd0 _ _ _ h_q_150) wd_15_10 wd_15_11 wd_15_12 wd_1_2 wd_15_13 hd5_count ⟨Nat.le_trans (by decide) hR.1, Nat.le_trans (by decide) hR.2⟩ ⟨Nat.zero_le _, Nat.zero_le _⟩ hd0.i (hd0.c _) rfl (Nat.le_of_ble_eq_true rfl) rfl rfl dL_told_495 (fun H locs Z => ?_)
                              refine lv_iload hx hb dL_told_498 (lv_at hl 5 rfl) ?_
                              refine lv_icmp_ne (tgt := 525) hx hb dL_told_500 (by decide) (fun h_151 => ?_) (fun h_151 => ?_)
                              · replace hT := mx_f hT h_151
                                refine lv_iconst (v := (0 : Int32)) hx hb dL_told_525 (by decide) ?_
                                cases hT
                                exact W.zret (v := (0 : Int32)) hx hb hr rfl (fun t ht hW => mx_end Z t ht _) Z.2.2.2 dL_told_526
                              · replace hT := mx_t hT h_151
                                refine lv_aload_n hx hb dL_told_503 rfl (lv_at hl 0 rfl) ?_
                                obtain ⟨q_152, h_q_152, hT⟩ := mx_bind hT
                                refine mx_callV (As := []) (rest := []) (st1 := [.double (q_152)]) (C := RX5) (T := TX5) (N := 6) (ci := 5) X Z hl.1 (c5_meanSinking l E hJ hd0 _ _ h_q_152) wd_16_12 wd_16_13 wd_16_14 wd_1_2 wd_16_15 hd5_meanSinking ⟨Nat.le_trans (by decide) hR.1, Nat.le_trans (by decide) hR.2⟩ ⟨Nat.zero_le _, Nat.zero_le _⟩ hd0.i (hd0.c _) rfl (Nat.le_of_ble_eq_true rfl) rfl rfl dL_told_504 (fun H locs Z => ?_)
                                refine lv_dconst1 hx hb dL_told_507 ?_
                                refine lv_iload hx hb dL_told_508 (lv_at hl 4 rfl) ?_
                                refine lv_i2d hx hb dL_told_510 ?_
                                obtain ⟨h_153, hT⟩ := mx_chk hT
                                refine lv_dmul hx hb dL_told_511 h_153 ?_
                                refine lv_aload_n hx hb dL_told_512 rfl (lv_at hl 1 rfl) ?_
                                refine lv_iconst (v := (0 : Int32)) hx hb dL_told_513 (by decide) ?_
                                obtain ⟨h_154, hT⟩ := mx_chk hT
                                refine mx_iald X Z ha1 h_154 dL_told_514 ?_
                                refine mx_tops (s2 := [.int (G a1 (((0 : Int32)).toNatClampNeg)), .double (FP.dmul FP.dconst1 (FP.i2d q_91.2.1)), .double (q_152)]) rfl ?_
                                refine lv_i2d hx hb dL_told_515 ?_
                                obtain ⟨h_155, hT⟩ := mx_chk hT
                                refine lv_ddiv hx hb dL_told_516 h_155 ?_
                                refine lv_dcmp hx hb dL_told_517 ?_
                                refine lv_if_ne (tgt := 525) hx hb dL_told_518 (by decide) (fun h_156 => ?_) (fun h_156 => ?_)
                                · replace hT := mx_f hT h_156
                                  refine lv_iconst (v := (0 : Int32)) hx hb dL_told_525 (by decide) ?_
                                  cases hT
                                  exact W.zret (v := (0 : Int32)) hx hb hr rfl (fun t ht hW => mx_end Z t ht _) Z.2.2.2 dL_told_526
                                · replace hT := mx_t hT h_156
                                  refine lv_iconst (v := (1 : Int32)) hx hb dL_told_521 (by decide) ?_
                                  refine lv_goto (tgt := 526) hx hb dL_told_522 (by decide) ?_
                                  cases hT
                                  exact W.zret (v := (1 : Int32)) hx hb hr rfl (fun t ht hW => mx_end Z t ht _) Z.2.2.2 dL_told_526
                  · replace hT := mx_f hT h_134
                    refine lv_iconst (v := (0 : Int32)) hx hb dL_told_428 (by decide) ?_
                    cases hT
                    exact W.zret (v := (0 : Int32)) hx hb hr rfl (fun t ht hW => mx_end Z t ht _) Z.2.2.2 dL_told_429
      · replace hT := mx_f hT (by rw [ht]; decide)
        refine lv_iconst (v := (0 : Int32)) hx hb dL_told_332 (by decide) ?_
        cases hT
        exact W.zret (v := (0 : Int32)) hx hb hr rfl (fun t ht hW => mx_end Z t ht _) Z.2.2.2 dL_told_333
    · replace hT := mx_f hT (by rw [ht]; decide)
      replace hT := mx_t hT ht
      refine lv_iconst (v := (0 : Int32)) hx hb dL_told_258 (by decide) ?_
      cases hT
      exact W.zret (v := (0 : Int32)) hx hb hr rfl (fun t ht hW => mx_end Z t ht _) Z.2.2.2 dL_told_259
    · replace hT := mx_f hT (by rw [ht]; decide)
      replace hT := mx_f hT (by rw [ht]; decide)
      refine lv_iconst (v := (0 : Int32)) hx hb dL_told_300 (by decide) ?_
      cases hT
      exact W.zret (v := (0 : Int32)) hx hb hr rfl (fun t ht hW => mx_end Z t ht _) Z.2.2.2 dL_told_301
  · replace hT := mx_f hT (by rw [ht]; decide)
    refine lv_iconst (v := (0 : Int32)) hx hb dL_told_208 (by decide) ?_
    cases hT
    exact W.zret (v := (0 : Int32)) hx hb hr rfl (fun t ht hW => mx_end Z t ht _) Z.2.2.2 dL_told_209
