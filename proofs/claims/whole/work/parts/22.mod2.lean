/-! PeatRailwayModel.reason -/
def x6_reason_L136 (y2 : Int32) (y3 : Int32) (y4 : Int32) : Nat → Int32 → mM → Option (Int32)
  | 0, _, _ => none
  | n + 1, w6, G =>
    (x6_isPassing w6 G).bind fun q_17 =>
    if q_17 = 0 then
      mNm (w6 + y4) fun v_19 =>
      x6_reason_L136 y2 y3 y4 n v_19 G
    else
      some (w6)
def x6_reason (x1 : Int32) (G : mM) : Option Int32 :=
  (x6_of x1 ((3 : Int32)) G).bind fun q_1 =>
  (x6_of x1 ((4 : Int32)) G).bind fun q_2 =>
  if q_2 = ((1 : Int32)) then
    if q_1 = ((G 247 72) - ((1 : Int32))) then
      some ((0 : Int32))
    else
      if q_2 = 0 then
        if q_1 = 0 then
          (x6_other ((4 : Int32)) G).bind fun q_203 =>
          (x6_wanted x1 G).bind fun q_204 =>
          if q_204 ≤ q_203 then
            some ((0 : Int32))
          else
            some ((1 : Int32))
        else
          if q_2 = ((1 : Int32)) then
            mNm (q_1 + ((1 : Int32))) fun v_180 =>
            (x6_seg v_180 ((2 : Int32)) G).bind fun q_181 =>
            (x6_other ((0 : Int32)) G).bind fun q_182 =>
            if q_181 ≤ q_182 then
              (x6_trainsIn v_180 G).bind fun q_184 =>
              (x6_room v_180 G).bind fun q_185 =>
              if q_184 < q_185 then
                (x6_isPassing q_1 G).bind fun q_187 =>
                if q_187 = 0 then
                  some ((0 : Int32))
                else
                  (x6_isPassing v_180 G).bind fun q_189 =>
                  if q_189 = 0 then
                    (x6_reason_L136 q_1 q_2 ((1 : Int32)) mFu v_180 G).bind fun q_191 =>
                    (x6_between q_1 q_191 (((1 : Int32)) - q_2) G).bind fun q_192 =>
                    if q_192 ≤ 0 then
                      (x6_isEnd q_191 G).bind fun q_194 =>
                      if q_194 = 0 then
                        (x6_trainsIn q_191 G).bind fun q_197 =>
                        (x6_between q_1 q_191 q_2 G).bind fun q_198 =>
                        (x6_room q_191 G).bind fun q_199 =>
                        if (q_197 + q_198) < q_199 then
                          if ((0 : Int32)) = 0 then
                            some ((0 : Int32))
                          else
                            some ((5 : Int32))
                        else
                          if ((1 : Int32)) = 0 then
                            some ((0 : Int32))
                          else
                            some ((5 : Int32))
                      else
                        if ((0 : Int32)) = 0 then
                          some ((0 : Int32))
                        else
                          some ((5 : Int32))
                    else
                      some ((4 : Int32))
                  else
                    some ((0 : Int32))
              else
                some ((3 : Int32))
            else
              some ((2 : Int32))
          else
            mNm (q_1 + ((-1 : Int32))) fun v_157 =>
            (x6_seg v_157 ((2 : Int32)) G).bind fun q_158 =>
            (x6_other ((0 : Int32)) G).bind fun q_159 =>
            if q_158 ≤ q_159 then
              (x6_trainsIn v_157 G).bind fun q_161 =>
              (x6_room v_157 G).bind fun q_162 =>
              if q_161 < q_162 then
                (x6_isPassing q_1 G).bind fun q_164 =>
                if q_164 = 0 then
                  some ((0 : Int32))
                else
                  (x6_isPassing v_157 G).bind fun q_166 =>
                  if q_166 = 0 then
                    (x6_reason_L136 q_1 q_2 ((-1 : Int32)) mFu v_157 G).bind fun q_168 =>
                    (x6_between q_1 q_168 (((1 : Int32)) - q_2) G).bind fun q_169 =>
                    if q_169 ≤ 0 then
                      (x6_isEnd q_168 G).bind fun q_171 =>
                      if q_171 = 0 then
                        (x6_trainsIn q_168 G).bind fun q_174 =>
                        (x6_between q_1 q_168 q_2 G).bind fun q_175 =>
                        (x6_room q_168 G).bind fun q_176 =>
                        if (q_174 + q_175) < q_176 then
                          if ((0 : Int32)) = 0 then
                            some ((0 : Int32))
                          else
                            some ((5 : Int32))
                        else
                          if ((1 : Int32)) = 0 then
                            some ((0 : Int32))
                          else
                            some ((5 : Int32))
                      else
                        if ((0 : Int32)) = 0 then
                          some ((0 : Int32))
                        else
                          some ((5 : Int32))
                    else
                      some ((4 : Int32))
                  else
                    some ((0 : Int32))
              else
                some ((3 : Int32))
            else
              some ((2 : Int32))
      else
        if q_2 = ((1 : Int32)) then
          mNm (q_1 + ((1 : Int32))) fun v_132 =>
          (x6_seg v_132 ((2 : Int32)) G).bind fun q_133 =>
          (x6_other ((0 : Int32)) G).bind fun q_134 =>
          if q_133 ≤ q_134 then
            (x6_trainsIn v_132 G).bind fun q_136 =>
            (x6_room v_132 G).bind fun q_137 =>
            if q_136 < q_137 then
              (x6_isPassing q_1 G).bind fun q_139 =>
              if q_139 = 0 then
                some ((0 : Int32))
              else
                (x6_isPassing v_132 G).bind fun q_141 =>
                if q_141 = 0 then
                  (x6_reason_L136 q_1 q_2 ((1 : Int32)) mFu v_132 G).bind fun q_143 =>
                  (x6_between q_1 q_143 (((1 : Int32)) - q_2) G).bind fun q_144 =>
                  if q_144 ≤ 0 then
                    (x6_isEnd q_143 G).bind fun q_146 =>
                    if q_146 = 0 then
                      (x6_trainsIn q_143 G).bind fun q_149 =>
                      (x6_between q_1 q_143 q_2 G).bind fun q_150 =>
                      (x6_room q_143 G).bind fun q_151 =>
                      if (q_149 + q_150) < q_151 then
                        if ((0 : Int32)) = 0 then
                          some ((0 : Int32))
                        else
                          some ((5 : Int32))
                      else
                        if ((1 : Int32)) = 0 then
                          some ((0 : Int32))
                        else
                          some ((5 : Int32))
                    else
                      if ((0 : Int32)) = 0 then
                        some ((0 : Int32))
                      else
                        some ((5 : Int32))
                  else
                    some ((4 : Int32))
                else
                  some ((0 : Int32))
            else
              some ((3 : Int32))
          else
            some ((2 : Int32))
        else
          mNm (q_1 + ((-1 : Int32))) fun v_109 =>
          (x6_seg v_109 ((2 : Int32)) G).bind fun q_110 =>
          (x6_other ((0 : Int32)) G).bind fun q_111 =>
          if q_110 ≤ q_111 then
            (x6_trainsIn v_109 G).bind fun q_113 =>
            (x6_room v_109 G).bind fun q_114 =>
            if q_113 < q_114 then
              (x6_isPassing q_1 G).bind fun q_116 =>
              if q_116 = 0 then
                some ((0 : Int32))
              else
                (x6_isPassing v_109 G).bind fun q_118 =>
                if q_118 = 0 then
                  (x6_reason_L136 q_1 q_2 ((-1 : Int32)) mFu v_109 G).bind fun q_120 =>
                  (x6_between q_1 q_120 (((1 : Int32)) - q_2) G).bind fun q_121 =>
                  if q_121 ≤ 0 then
                    (x6_isEnd q_120 G).bind fun q_123 =>
                    if q_123 = 0 then
                      (x6_trainsIn q_120 G).bind fun q_126 =>
                      (x6_between q_1 q_120 q_2 G).bind fun q_127 =>
                      (x6_room q_120 G).bind fun q_128 =>
                      if (q_126 + q_127) < q_128 then
                        if ((0 : Int32)) = 0 then
                          some ((0 : Int32))
                        else
                          some ((5 : Int32))
                      else
                        if ((1 : Int32)) = 0 then
                          some ((0 : Int32))
                        else
                          some ((5 : Int32))
                    else
                      if ((0 : Int32)) = 0 then
                        some ((0 : Int32))
                      else
                        some ((5 : Int32))
                  else
                    some ((4 : Int32))
                else
                  some ((0 : Int32))
            else
              some ((3 : Int32))
          else
            some ((2 : Int32))
  else
    if q_2 = 0 then
      if q_1 = 0 then
        (x6_other ((4 : Int32)) G).bind fun q_103 =>
        (x6_wanted x1 G).bind fun q_104 =>
        if q_104 ≤ q_103 then
          some ((0 : Int32))
        else
          some ((1 : Int32))
      else
        if q_2 = ((1 : Int32)) then
          mNm (q_1 + ((1 : Int32))) fun v_80 =>
          (x6_seg v_80 ((2 : Int32)) G).bind fun q_81 =>
          (x6_other ((0 : Int32)) G).bind fun q_82 =>
          if q_81 ≤ q_82 then
            (x6_trainsIn v_80 G).bind fun q_84 =>
            (x6_room v_80 G).bind fun q_85 =>
            if q_84 < q_85 then
              (x6_isPassing q_1 G).bind fun q_87 =>
              if q_87 = 0 then
                some ((0 : Int32))
              else
                (x6_isPassing v_80 G).bind fun q_89 =>
                if q_89 = 0 then
                  (x6_reason_L136 q_1 q_2 ((1 : Int32)) mFu v_80 G).bind fun q_91 =>
                  (x6_between q_1 q_91 (((1 : Int32)) - q_2) G).bind fun q_92 =>
                  if q_92 ≤ 0 then
                    (x6_isEnd q_91 G).bind fun q_94 =>
                    if q_94 = 0 then
                      (x6_trainsIn q_91 G).bind fun q_97 =>
                      (x6_between q_1 q_91 q_2 G).bind fun q_98 =>
                      (x6_room q_91 G).bind fun q_99 =>
                      if (q_97 + q_98) < q_99 then
                        if ((0 : Int32)) = 0 then
                          some ((0 : Int32))
                        else
                          some ((5 : Int32))
                      else
                        if ((1 : Int32)) = 0 then
                          some ((0 : Int32))
                        else
                          some ((5 : Int32))
                    else
                      if ((0 : Int32)) = 0 then
                        some ((0 : Int32))
                      else
                        some ((5 : Int32))
                  else
                    some ((4 : Int32))
                else
                  some ((0 : Int32))
            else
              some ((3 : Int32))
          else
            some ((2 : Int32))
        else
          mNm (q_1 + ((-1 : Int32))) fun v_57 =>
          (x6_seg v_57 ((2 : Int32)) G).bind fun q_58 =>
          (x6_other ((0 : Int32)) G).bind fun q_59 =>
          if q_58 ≤ q_59 then
            (x6_trainsIn v_57 G).bind fun q_61 =>
            (x6_room v_57 G).bind fun q_62 =>
            if q_61 < q_62 then
              (x6_isPassing q_1 G).bind fun q_64 =>
              if q_64 = 0 then
                some ((0 : Int32))
              else
                (x6_isPassing v_57 G).bind fun q_66 =>
                if q_66 = 0 then
                  (x6_reason_L136 q_1 q_2 ((-1 : Int32)) mFu v_57 G).bind fun q_68 =>
                  (x6_between q_1 q_68 (((1 : Int32)) - q_2) G).bind fun q_69 =>
                  if q_69 ≤ 0 then
                    (x6_isEnd q_68 G).bind fun q_71 =>
                    if q_71 = 0 then
                      (x6_trainsIn q_68 G).bind fun q_74 =>
                      (x6_between q_1 q_68 q_2 G).bind fun q_75 =>
                      (x6_room q_68 G).bind fun q_76 =>
                      if (q_74 + q_75) < q_76 then
                        if ((0 : Int32)) = 0 then
                          some ((0 : Int32))
                        else
                          some ((5 : Int32))
                      else
                        if ((1 : Int32)) = 0 then
                          some ((0 : Int32))
                        else
                          some ((5 : Int32))
                    else
                      if ((0 : Int32)) = 0 then
                        some ((0 : Int32))
                      else
                        some ((5 : Int32))
                  else
                    some ((4 : Int32))
                else
                  some ((0 : Int32))
            else
              some ((3 : Int32))
          else
            some ((2 : Int32))
    else
      if q_2 = ((1 : Int32)) then
        mNm (q_1 + ((1 : Int32))) fun v_32 =>
        (x6_seg v_32 ((2 : Int32)) G).bind fun q_33 =>
        (x6_other ((0 : Int32)) G).bind fun q_34 =>
        if q_33 ≤ q_34 then
          (x6_trainsIn v_32 G).bind fun q_36 =>
          (x6_room v_32 G).bind fun q_37 =>
          if q_36 < q_37 then
            (x6_isPassing q_1 G).bind fun q_39 =>
            if q_39 = 0 then
              some ((0 : Int32))
            else
              (x6_isPassing v_32 G).bind fun q_41 =>
              if q_41 = 0 then
                (x6_reason_L136 q_1 q_2 ((1 : Int32)) mFu v_32 G).bind fun q_43 =>
                (x6_between q_1 q_43 (((1 : Int32)) - q_2) G).bind fun q_44 =>
                if q_44 ≤ 0 then
                  (x6_isEnd q_43 G).bind fun q_46 =>
                  if q_46 = 0 then
                    (x6_trainsIn q_43 G).bind fun q_49 =>
                    (x6_between q_1 q_43 q_2 G).bind fun q_50 =>
                    (x6_room q_43 G).bind fun q_51 =>
                    if (q_49 + q_50) < q_51 then
                      if ((0 : Int32)) = 0 then
                        some ((0 : Int32))
                      else
                        some ((5 : Int32))
                    else
                      if ((1 : Int32)) = 0 then
                        some ((0 : Int32))
                      else
                        some ((5 : Int32))
                  else
                    if ((0 : Int32)) = 0 then
                      some ((0 : Int32))
                    else
                      some ((5 : Int32))
                else
                  some ((4 : Int32))
              else
                some ((0 : Int32))
          else
            some ((3 : Int32))
        else
          some ((2 : Int32))
      else
        mNm (q_1 + ((-1 : Int32))) fun v_6 =>
        (x6_seg v_6 ((2 : Int32)) G).bind fun q_7 =>
        (x6_other ((0 : Int32)) G).bind fun q_8 =>
        if q_7 ≤ q_8 then
          (x6_trainsIn v_6 G).bind fun q_10 =>
          (x6_room v_6 G).bind fun q_11 =>
          if q_10 < q_11 then
            (x6_isPassing q_1 G).bind fun q_13 =>
            if q_13 = 0 then
              some ((0 : Int32))
            else
              (x6_isPassing v_6 G).bind fun q_15 =>
              if q_15 = 0 then
                (x6_reason_L136 q_1 q_2 ((-1 : Int32)) mFu v_6 G).bind fun q_20 =>
                (x6_between q_1 q_20 (((1 : Int32)) - q_2) G).bind fun q_21 =>
                if q_21 ≤ 0 then
                  (x6_isEnd q_20 G).bind fun q_23 =>
                  if q_23 = 0 then
                    (x6_trainsIn q_20 G).bind fun q_26 =>
                    (x6_between q_1 q_20 q_2 G).bind fun q_27 =>
                    (x6_room q_20 G).bind fun q_28 =>
                    if (q_26 + q_27) < q_28 then
                      if ((0 : Int32)) = 0 then
                        some ((0 : Int32))
                      else
                        some ((5 : Int32))
                    else
                      if ((1 : Int32)) = 0 then
                        some ((0 : Int32))
                      else
                        some ((5 : Int32))
                  else
                    if ((0 : Int32)) = 0 then
                      some ((0 : Int32))
                    else
                      some ((5 : Int32))
                else
                  some ((4 : Int32))
              else
                some ((0 : Int32))
          else
            some ((3 : Int32))
        else
          some ((2 : Int32))
theorem hd6_reason : yX6_reason.cls = RX6 ∧ yX6_reason.cls ≠ "java/lang/invoke/MethodHandle" ∧ yX6_reason.cls ≠ "java/lang/invoke/VarHandle" ∧ (parseMethodDescriptor yX6_reason.desc).map (fun d => d.parameters.length) = some 1 := by decide +kernel
set_option maxHeartbeats 4000000 in
set_option maxRecDepth 100000 in
theorem k6_reason_136 {p : Program} {l : Launch} {e : Env} {R : Room} {s : State} {m : MethodId} {args : Array Value} {below : List Frame} {meth : Method} {cd : Code} {Q : State → Prop} {E : mE} (X : mX p s m args cd cX6_reason 8 RX6 E) (hR : 3 ≤ R.frames ∧ 64 ≤ R.locals) (hJ : mJ E) (hy0 : mMo E 246) (y2 : Int32) (y3 : Int32) (y4 : Int32) : ∀ (n : Nat) (w6 : Int32) (G : mM) (H : Heap) (locs : List Loc) (ls : Array Slot) (r : Int32), x6_reason_L136 y2 y3 y4 n w6 G = some r → mZ E s.heap H locs G → lv_has ls 8 [(0, .ref (mad E (246))), (2, .int (y2)), (3, .int (y3)), (4, .int (y4)), (6, .int (w6))] → (∀ (H : Heap) (locs : List Loc) (ls : Array Slot), mZ E s.heap H locs G → lv_has ls 8 [(0, .ref (mad E (246))), (2, .int (y2)), (3, .int (y3)), (4, .int (y4)), (6, .int (r))] → W p l e R s m args below meth cd H locs 0 0 Q (F0 m 155 ls [])) → W p l e R s m args below meth cd H locs 0 0 Q (F0 m 136 ls []) := by
  have hx := X.1
  have hb := X.2.1
  have hown := X.2.2.2.1
  have hts := X.2.2.2.2.1
  intro n
  induction n with
  | zero =>
    intro w6 G H locs ls r hT
    rw [x6_reason_L136] at hT
    cases hT
  | succ n ih =>
    intro w6 G H locs ls r hT Z hl k0
    rw [x6_reason_L136] at hT
    refine lv_aload_n hx hb dX6_reason_136 rfl (lv_at hl 0 rfl) ?_
    refine lv_iload hx hb dX6_reason_137 (lv_at hl 4 rfl) ?_
    obtain ⟨q_17, h_q_17, hT⟩ := mx_bind hT
    refine mx_callV (As := [.int (w6)]) (rest := []) (st1 := [.int (q_17)]) (C := RX6) (T := TX6) (N := 11) (ci := 6) X Z hl.1 (c6_isPassing l E hJ hy0 _ _ _ h_q_17) wd_22_15 wd_22_16 wd_22_17 wd_1_5 wd_22_18 hd6_isPassing ⟨Nat.le_trans (by decide) hR.1, Nat.le_trans (by decide) hR.2⟩ ⟨Nat.zero_le _, Nat.zero_le _⟩ hy0.i (hy0.c _) rfl (Nat.le_of_ble_eq_true rfl) rfl rfl dX6_reason_139 (fun H locs Z => ?_)
    refine lv_if_ne (tgt := 155) hx hb dX6_reason_142 (by decide) (fun h_18 => ?_) (fun h_18 => ?_)
    · replace hT := mx_f hT h_18
      cases hT
      exact k0 _ _ _ Z (lv_sub hl [0, 1, 2, 3, 4] rfl)
    · replace hT := mx_t hT h_18
      refine lv_iload hx hb dX6_reason_145 (lv_at hl 4 rfl) ?_
      refine lv_iload hx hb dX6_reason_147 (lv_at hl 3 rfl) ?_
      refine lv_iadd hx hb dX6_reason_149 ?_
      obtain ⟨v_19, e_v_19, hT⟩ := mx_nm hT
      refine mx_tops (congrArg (fun z => (.int (z) :: [] : List Value)) e_v_19) ?_
      refine lv_istore (lv' := [(6, .int (v_19)), (0, .ref (mad E (246))), (2, .int (y2)), (3, .int (y3)), (4, .int (y4))]) hx hb dX6_reason_150 hl (by decide) rfl (fun ls hl => ?_)
      refine lv_goto (tgt := 136) hx hb dX6_reason_152 (by decide) ?_
      exact ih _ _ _ _ _ _ hT Z (lv_sub hl [1, 2, 3, 4, 0] rfl) k0
set_option maxHeartbeats 4000000 in
set_option maxRecDepth 100000 in
theorem c6_reason (l : Launch) (E : mE) (hJ : mJ E) (hc : mMo E 246) (x1 : Int32) (G : mM) (q : Int32) (hT : x6_reason x1 G = some q) : mMet l E yX6_reason cX6_reason 8 (some .int) 3 64 [.ref (mad E (246)), .int (x1)] G (some (.int q)) G := by
  refine Met.ofW (cc := cX6_reason) (maxL := 8) (ret := (some .int)) (by decide) rfl ?_
  intro p e s m args below meth cd s₁ B hml hv
  obtain ⟨rfl, hP, hK, hS⟩ := hv
  have X := mx_entry (own := RX6) B hml hK hJ hS rfl
  have hx := X.1
  have hb := X.2.1
  have hown := X.2.2.2.1
  have hts := X.2.2.2.2.1
  have hr := B.returns
  have hlocks := B.notSynchronized
  have hR : 3 ≤ (headSpec (mWs yX6_reason cX6_reason 8 (some .int)) ({ frames := 3, cells := 0, slots := 0, locals := 64 })).room.frames ∧ 64 ≤ (headSpec (mWs yX6_reason cX6_reason 8 (some .int)) ({ frames := 3, cells := 0, slots := 0, locals := 64 })).room.locals := ⟨Nat.le_refl _, Nat.le_refl _⟩
  have Z : mZ E s.heap s.heap [] G := ⟨hP, va_S.rf⟩
  have hl := lv_entry ([.ref (mad E (246)), .int (x1)]) (n := 8) (Nat.le_of_ble_eq_true rfl)
  rw [lg_entry_eq]
  generalize (lg_sl ([.ref (mad E (246)), .int (x1)]) ++ List.replicate (8 - (lg_sl ([.ref (mad E (246)), .int (x1)])).length) Slot.unset).toArray = ls at hl ⊢
  have hl : lv_has ls 8 [(0, .ref (mad E (246))), (1, .int (x1))] := hl
  unfold x6_reason at hT
  refine lv_aload_n hx hb dX6_reason_0 rfl (lv_at hl 0 rfl) ?_
  refine lv_iload_n hx hb dX6_reason_1 rfl (lv_at hl 1 rfl) ?_
  refine lv_iconst (v := (3 : Int32)) hx hb dX6_reason_2 (by decide) ?_
  obtain ⟨q_1, h_q_1, hT⟩ := mx_bind hT
  refine mx_callV (As := [.int (x1), .int ((3 : Int32))]) (rest := []) (st1 := [.int (q_1)]) (C := RX6) (T := TX6) (N := 11) (ci := 6) X Z hl.1 (c6_of l E hJ hc _ _ _ _ h_q_1) wd_13_11 wd_13_12 wd_13_13 wd_1_5 wd_13_14 hd6_of ⟨Nat.le_trans (by decide) hR.1, Nat.le_trans (by decide) hR.2⟩ ⟨Nat.zero_le _, Nat.zero_le _⟩ hc.i (hc.c _) rfl (Nat.le_of_ble_eq_true rfl) rfl rfl dX6_reason_3 (fun H locs Z => ?_)
  refine lv_istore_n (lv' := [(2, .int (q_1)), (0, .ref (mad E (246))), (1, .int (x1))]) hx hb dX6_reason_6 rfl hl (by decide) rfl (fun ls hl => ?_)
  refine lv_aload_n hx hb dX6_reason_7 rfl (lv_at hl 1 rfl) ?_
  refine lv_iload_n hx hb dX6_reason_8 rfl (lv_at hl 2 rfl) ?_
  refine lv_iconst (v := (4 : Int32)) hx hb dX6_reason_9 (by decide) ?_
  obtain ⟨q_2, h_q_2, hT⟩ := mx_bind hT
  refine mx_callV (As := [.int (x1), .int ((4 : Int32))]) (rest := []) (st1 := [.int (q_2)]) (C := RX6) (T := TX6) (N := 11) (ci := 6) X Z hl.1 (c6_of l E hJ hc _ _ _ _ h_q_2) wd_13_11 wd_13_12 wd_13_13 wd_1_5 wd_13_14 hd6_of ⟨Nat.le_trans (by decide) hR.1, Nat.le_trans (by decide) hR.2⟩ ⟨Nat.zero_le _, Nat.zero_le _⟩ hc.i (hc.c _) rfl (Nat.le_of_ble_eq_true rfl) rfl rfl dX6_reason_10 (fun H locs Z => ?_)
  refine lv_istore_n (lv' := [(3, .int (q_2)), (2, .int (q_1)), (0, .ref (mad E (246))), (1, .int (x1))]) hx hb dX6_reason_13 rfl hl (by decide) rfl (fun ls hl => ?_)
  refine lv_iload_n hx hb dX6_reason_14 rfl (lv_at hl 0 rfl) ?_
  refine lv_iconst (v := (1 : Int32)) hx hb dX6_reason_15 (by decide) ?_
  refine lv_icmp_ne (tgt := 34) hx hb dX6_reason_16 (by decide) (fun h_3 => ?_) (fun h_3 => ?_)
  · replace hT := mx_f hT h_3
    refine lv_iload_n hx hb dX6_reason_34 rfl (lv_at hl 0 rfl) ?_
    refine lv_if_ne (tgt := 61) hx hb dX6_reason_35 (by decide) (fun h_4 => ?_) (fun h_4 => ?_)
    · replace hT := mx_f hT h_4
      refine lv_iload_n hx hb dX6_reason_61 rfl (lv_at hl 0 rfl) ?_
      refine lv_iconst (v := (1 : Int32)) hx hb dX6_reason_62 (by decide) ?_
      refine lv_icmp_ne (tgt := 70) hx hb dX6_reason_63 (by decide) (fun h_5 => ?_) (fun h_5 => ?_)
      · replace hT := mx_f hT h_5
        refine lv_iconst (v := (-1 : Int32)) hx hb dX6_reason_70 (by decide) ?_
        refine lv_istore (lv' := [(4, .int ((-1 : Int32))), (3, .int (q_2)), (2, .int (q_1)), (0, .ref (mad E (246))), (1, .int (x1))]) hx hb dX6_reason_71 hl (by decide) rfl (fun ls hl => ?_)
        refine lv_iload_n hx hb dX6_reason_73 rfl (lv_at hl 2 rfl) ?_
        refine lv_iload hx hb dX6_reason_74 (lv_at hl 0 rfl) ?_
        refine lv_iadd hx hb dX6_reason_76 ?_
        obtain ⟨v_6, e_v_6, hT⟩ := mx_nm hT
        refine mx_tops (congrArg (fun z => (.int (z) :: [] : List Value)) e_v_6) ?_
        refine lv_istore (lv' := [(5, .int (v_6)), (4, .int ((-1 : Int32))), (3, .int (q_2)), (2, .int (q_1)), (0, .ref (mad E (246))), (1, .int (x1))]) hx hb dX6_reason_77 hl (by decide) rfl (fun ls hl => ?_)
        refine lv_aload_n hx hb dX6_reason_79 rfl (lv_at hl 4 rfl) ?_
        refine lv_iload hx hb dX6_reason_80 (lv_at hl 0 rfl) ?_
        refine lv_iconst (v := (2 : Int32)) hx hb dX6_reason_82 (by decide) ?_
        obtain ⟨q_7, h_q_7, hT⟩ := mx_bind hT
        refine mx_callV (As := [.int (v_6), .int ((2 : Int32))]) (rest := []) (st1 := [.int (q_7)]) (C := RX6) (T := TX6) (N := 11) (ci := 6) X Z hl.1 (c6_seg l E hJ hc _ _ _ _ h_q_7) wd_21_23 wd_22_0 wd_22_1 wd_1_5 wd_22_2 hd6_seg ⟨Nat.le_trans (by decide) hR.1, Nat.le_trans (by decide) hR.2⟩ ⟨Nat.zero_le _, Nat.zero_le _⟩ hc.i (hc.c _) rfl (Nat.le_of_ble_eq_true rfl) rfl rfl dX6_reason_83 (fun H locs Z => ?_)
        refine lv_aload_n hx hb dX6_reason_86 rfl (lv_at hl 4 rfl) ?_
        refine lv_iconst (v := (0 : Int32)) hx hb dX6_reason_87 (by decide) ?_
        obtain ⟨q_8, h_q_8, hT⟩ := mx_bind hT
        refine mx_callV (As := [.int ((0 : Int32))]) (rest := [.int (q_7)]) (st1 := [.int (q_8), .int (q_7)]) (C := RX6) (T := TX6) (N := 11) (ci := 6) X Z hl.1 (c6_other l E hJ hc _ _ _ h_q_8) wd_14_8 wd_14_9 wd_14_10 wd_1_5 wd_14_11 hd6_other ⟨Nat.le_trans (by decide) hR.1, Nat.le_trans (by decide) hR.2⟩ ⟨Nat.zero_le _, Nat.zero_le _⟩ hc.i (hc.c _) rfl (Nat.le_of_ble_eq_true rfl) rfl rfl dX6_reason_88 (fun H locs Z => ?_)
        refine lv_icmp_le (tgt := 96) hx hb dX6_reason_91 (by decide) (fun h_9 => ?_) (fun h_9 => ?_)
        · replace hT := mx_t hT h_9
          refine lv_aload_n hx hb dX6_reason_96 rfl (lv_at hl 4 rfl) ?_
          refine lv_iload hx hb dX6_reason_97 (lv_at hl 0 rfl) ?_
          obtain ⟨q_10, h_q_10, hT⟩ := mx_bind hT
          refine mx_callV (As := [.int (v_6)]) (rest := []) (st1 := [.int (q_10)]) (C := RX6) (T := TX6) (N := 11) (ci := 6) X Z hl.1 (c6_trainsIn l E hJ hc _ _ _ h_q_10) wd_22_3 wd_22_4 wd_22_5 wd_1_5 wd_22_6 hd6_trainsIn ⟨Nat.le_trans (by decide) hR.1, Nat.le_trans (by decide) hR.2⟩ ⟨Nat.zero_le _, Nat.zero_le _⟩ hc.i (hc.c _) rfl (Nat.le_of_ble_eq_true rfl) rfl rfl dX6_reason_99 (fun H locs Z => ?_)
          refine lv_aload_n hx hb dX6_reason_102 rfl (lv_at hl 4 rfl) ?_
          refine lv_iload hx hb dX6_reason_103 (lv_at hl 0 rfl) ?_
          obtain ⟨q_11, h_q_11, hT⟩ := mx_bind hT
          refine mx_callV (As := [.int (v_6)]) (rest := [.int (q_10)]) (st1 := [.int (q_11), .int (q_10)]) (C := RX6) (T := TX6) (N := 11) (ci := 6) X Z hl.1 (c6_room l E hJ hc _ _ _ h_q_11) wd_22_7 wd_22_8 wd_22_9 wd_1_5 wd_22_10 hd6_room ⟨Nat.le_trans (by decide) hR.1, Nat.le_trans (by decide) hR.2⟩ ⟨Nat.zero_le _, Nat.zero_le _⟩ hc.i (hc.c _) rfl (Nat.le_of_ble_eq_true rfl) rfl rfl dX6_reason_105 (fun H locs Z => ?_)
          refine lv_icmp_lt (tgt := 113) hx hb dX6_reason_108 (by decide) (fun h_12 => ?_) (fun h_12 => ?_)
          · replace hT := mx_t hT h_12
            refine lv_aload_n hx hb dX6_reason_113 rfl (lv_at hl 4 rfl) ?_
            refine lv_iload_n hx hb dX6_reason_114 rfl (lv_at hl 3 rfl) ?_
            obtain ⟨q_13, h_q_13, hT⟩ := mx_bind hT
            refine mx_callV (As := [.int (q_1)]) (rest := []) (st1 := [.int (q_13)]) (C := RX6) (T := TX6) (N := 11) (ci := 6) X Z hl.1 (c6_isPassing l E hJ hc _ _ _ h_q_13) wd_22_15 wd_22_16 wd_22_17 wd_1_5 wd_22_18 hd6_isPassing ⟨Nat.le_trans (by decide) hR.1, Nat.le_trans (by decide) hR.2⟩ ⟨Nat.zero_le _, Nat.zero_le _⟩ hc.i (hc.c _) rfl (Nat.le_of_ble_eq_true rfl) rfl rfl dX6_reason_115 (fun H locs Z => ?_)
            refine lv_if_eq (tgt := 130) hx hb dX6_reason_118 (by decide) (fun h_14 => ?_) (fun h_14 => ?_)
            · replace hT := mx_t hT h_14
              refine lv_iconst (v := (0 : Int32)) hx hb dX6_reason_130 (by decide) ?_
              cases hT
              exact W.iret hx hb hr (fun t ht hW => mx_end Z t ht _) Z.2.2.2 dX6_reason_131
            · replace hT := mx_f hT h_14
              refine lv_aload_n hx hb dX6_reason_121 rfl (lv_at hl 4 rfl) ?_
              refine lv_iload hx hb dX6_reason_122 (lv_at hl 0 rfl) ?_
              obtain ⟨q_15, h_q_15, hT⟩ := mx_bind hT
              refine mx_callV (As := [.int (v_6)]) (rest := []) (st1 := [.int (q_15)]) (C := RX6) (T := TX6) (N := 11) (ci := 6) X Z hl.1 (c6_isPassing l E hJ hc _ _ _ h_q_15) wd_22_15 wd_22_16 wd_22_17 wd_1_5 wd_22_18 hd6_isPassing ⟨Nat.le_trans (by decide) hR.1, Nat.le_trans (by decide) hR.2⟩ ⟨Nat.zero_le _, Nat.zero_le _⟩ hc.i (hc.c _) rfl (Nat.le_of_ble_eq_true rfl) rfl rfl dX6_reason_124 (fun H locs Z => ?_)
              refine lv_if_eq (tgt := 132) hx hb dX6_reason_127 (by decide) (fun h_16 => ?_) (fun h_16 => ?_)
              · replace hT := mx_t hT h_16
                refine lv_iload hx hb dX6_reason_132 (lv_at hl 0 rfl) ?_
                refine lv_istore (lv' := [(6, .int (v_6)), (5, .int (v_6)), (4, .int ((-1 : Int32))), (3, .int (q_2)), (2, .int (q_1)), (0, .ref (mad E (246))), (1, .int (x1))]) hx hb dX6_reason_134 hl (by decide) rfl (fun ls hl => ?_)
                obtain ⟨q_20, h_q_20, hT⟩ := mx_bind hT
                refine k6_reason_136 X hR hJ hc _ _ _ _ _ _ _ _ _ _ h_q_20 Z (lv_sub (l' := [(0, .ref (mad E (246))), (2, .int (q_1)), (3, .int (q_2)), (4, .int ((-1 : Int32))), (6, .int (v_6))]) hl [5, 4, 3, 2, 0] rfl) (fun H locs ls Z hl => ?_)
                · refine lv_aload_n hx hb dX6_reason_155 rfl (lv_at hl 0 rfl) ?_
                  refine lv_iload_n hx hb dX6_reason_156 rfl (lv_at hl 1 rfl) ?_
                  refine lv_iload hx hb dX6_reason_157 (lv_at hl 4 rfl) ?_
                  refine lv_iconst (v := (1 : Int32)) hx hb dX6_reason_159 (by decide) ?_
                  refine lv_iload_n hx hb dX6_reason_160 rfl (lv_at hl 2 rfl) ?_
                  refine lv_isub hx hb dX6_reason_161 ?_
                  obtain ⟨q_21, h_q_21, hT⟩ := mx_bind hT
                  refine mx_callV (As := [.int (q_1), .int (q_20), .int (((1 : Int32)) - q_2)]) (rest := []) (st1 := [.int (q_21)]) (C := RX6) (T := TX6) (N := 11) (ci := 6) X Z hl.1 (c6_between l E hJ hc _ _ _ _ _ h_q_21) wd_22_19 wd_22_20 wd_22_21 wd_1_5 wd_22_22 hd6_between ⟨Nat.le_trans (by decide) hR.1, Nat.le_trans (by decide) hR.2⟩ ⟨Nat.zero_le _, Nat.zero_le _⟩ hc.i (hc.c _) rfl (Nat.le_of_ble_eq_true rfl) rfl rfl dX6_reason_162 (fun H locs Z => ?_)
                  refine lv_if_le (tgt := 170) hx hb dX6_reason_165 (by decide) (fun h_22 => ?_) (fun h_22 => ?_)
                  · replace hT := mx_t hT h_22
                    refine lv_aload_n hx hb dX6_reason_170 rfl (lv_at hl 0 rfl) ?_
                    refine lv_iload hx hb dX6_reason_171 (lv_at hl 4 rfl) ?_
                    obtain ⟨q_23, h_q_23, hT⟩ := mx_bind hT
                    refine mx_callV (As := [.int (q_20)]) (rest := []) (st1 := [.int (q_23)]) (C := RX6) (T := TX6) (N := 11) (ci := 6) X Z hl.1 (c6_isEnd l E hJ hc _ _ _ h_q_23) wd_22_11 wd_22_12 wd_22_13 wd_1_5 wd_22_14 hd6_isEnd ⟨Nat.le_trans (by decide) hR.1, Nat.le_trans (by decide) hR.2⟩ ⟨Nat.zero_le _, Nat.zero_le _⟩ hc.i (hc.c _) rfl (Nat.le_of_ble_eq_true rfl) rfl rfl dX6_reason_173 (fun H locs Z => ?_)
                    refine lv_if_ne (tgt := 207) hx hb dX6_reason_176 (by decide) (fun h_24 => ?_) (fun h_24 => ?_)
                    · replace hT := mx_f hT h_24
                      refine lv_iconst (v := (0 : Int32)) hx hb dX6_reason_207 (by decide) ?_
                      refine lv_istore (lv' := [(7, .int ((0 : Int32))), (0, .ref (mad E (246))), (2, .int (q_1)), (3, .int (q_2)), (4, .int ((-1 : Int32))), (6, .int (q_20))]) hx hb dX6_reason_208 hl (by decide) rfl (fun ls hl => ?_)
                      refine lv_iload hx hb dX6_reason_210 (lv_at hl 0 rfl) ?_
                      refine lv_if_eq (tgt := 219) hx hb dX6_reason_212 (by decide) (fun h_25 => ?_) (fun h_25 => ?_)
                      · replace hT := mx_t hT h_25
                        refine lv_iconst (v := (0 : Int32)) hx hb dX6_reason_219 (by decide) ?_
                        cases hT
                        exact W.iret hx hb hr (fun t ht hW => mx_end Z t ht _) Z.2.2.2 dX6_reason_220
                      · replace hT := mx_f hT h_25
                        refine lv_iconst (v := (5 : Int32)) hx hb dX6_reason_215 (by decide) ?_
                        refine lv_goto (tgt := 220) hx hb dX6_reason_216 (by decide) ?_
                        cases hT
                        exact W.iret hx hb hr (fun t ht hW => mx_end Z t ht _) Z.2.2.2 dX6_reason_220
                    · replace hT := mx_t hT h_24
                      refine lv_aload_n hx hb dX6_reason_179 rfl (lv_at hl 0 rfl) ?_
                      refine lv_iload hx hb dX6_reason_180 (lv_at hl 4 rfl) ?_
                      obtain ⟨q_26, h_q_26, hT⟩ := mx_bind hT
                      refine mx_callV (As := [.int (q_20)]) (rest := []) (st1 := [.int (q_26)]) (C := RX6) (T := TX6) (N := 11) (ci := 6) X Z hl.1 (c6_trainsIn l E hJ hc _ _ _ h_q_26) wd_22_3 wd_22_4 wd_22_5 wd_1_5 wd_22_6 hd6_trainsIn ⟨Nat.le_trans (by decide) hR.1, Nat.le_trans (by decide) hR.2⟩ ⟨Nat.zero_le _, Nat.zero_le _⟩ hc.i (hc.c _) rfl (Nat.le_of_ble_eq_true rfl) rfl rfl dX6_reason_182 (fun H locs Z => ?_)
                      refine lv_aload_n hx hb dX6_reason_185 rfl (lv_at hl 0 rfl) ?_
                      refine lv_iload_n hx hb dX6_reason_186 rfl (lv_at hl 1 rfl) ?_
                      refine lv_iload hx hb dX6_reason_187 (lv_at hl 4 rfl) ?_
                      refine lv_iload_n hx hb dX6_reason_189 rfl (lv_at hl 2 rfl) ?_
                      obtain ⟨q_27, h_q_27, hT⟩ := mx_bind hT
                      refine mx_callV (As := [.int (q_1), .int (q_20), .int (q_2)]) (rest := [.int (q_26)]) (st1 := [.int (q_27), .int (q_26)]) (C := RX6) (T := TX6) (N := 11) (ci := 6) X Z hl.1 (c6_between l E hJ hc _ _ _ _ _ h_q_27) wd_22_19 wd_22_20 wd_22_21 wd_1_5 wd_22_22 hd6_between ⟨Nat.le_trans (by decide) hR.1, Nat.le_trans (by decide) hR.2⟩ ⟨Nat.zero_le _, Nat.zero_le _⟩ hc.i (hc.c _) rfl (Nat.le_of_ble_eq_true rfl) rfl rfl dX6_reason_190 (fun H locs Z => ?_)
                      refine lv_iadd hx hb dX6_reason_193 ?_
                      refine lv_aload_n hx hb dX6_reason_194 rfl (lv_at hl 0 rfl) ?_
                      refine lv_iload hx hb dX6_reason_195 (lv_at hl 4 rfl) ?_
                      obtain ⟨q_28, h_q_28, hT⟩ := mx_bind hT
                      refine mx_callV (As := [.int (q_20)]) (rest := [.int (q_26 + q_27)]) (st1 := [.int (q_28), .int (q_26 + q_27)]) (C := RX6) (T := TX6) (N := 11) (ci := 6) X Z hl.1 (c6_room l E hJ hc _ _ _ h_q_28) wd_22_7 wd_22_8 wd_22_9 wd_1_5 wd_22_10 hd6_room ⟨Nat.le_trans (by decide) hR.1, Nat.le_trans (by decide) hR.2⟩ ⟨Nat.zero_le _, Nat.zero_le _⟩ hc.i (hc.c _) rfl (Nat.le_of_ble_eq_true rfl) rfl rfl dX6_reason_197 (fun H locs Z => ?_)
                      refine lv_icmp_lt (tgt := 207) hx hb dX6_reason_200 (by decide) (fun h_29 => ?_) (fun h_29 => ?_)
                      · replace hT := mx_t hT h_29
                        refine lv_iconst (v := (0 : Int32)) hx hb dX6_reason_207 (by decide) ?_
                        refine lv_istore (lv' := [(7, .int ((0 : Int32))), (0, .ref (mad E (246))), (2, .int (q_1)), (3, .int (q_2)), (4, .int ((-1 : Int32))), (6, .int (q_20))]) hx hb dX6_reason_208 hl (by decide) rfl (fun ls hl => ?_)
                        refine lv_iload hx hb dX6_reason_210 (lv_at hl 0 rfl) ?_
                        refine lv_if_eq (tgt := 219) hx hb dX6_reason_212 (by decide) (fun h_30 => ?_) (fun h_30 => ?_)
                        · replace hT := mx_t hT h_30
                          refine lv_iconst (v := (0 : Int32)) hx hb dX6_reason_219 (by decide) ?_
                          cases hT
                          exact W.iret hx hb hr (fun t ht hW => mx_end Z t ht _) Z.2.2.2 dX6_reason_220
                        · replace hT := mx_f hT h_30
                          refine lv_iconst (v := (5 : Int32)) hx hb dX6_reason_215 (by decide) ?_
                          refine lv_goto (tgt := 220) hx hb dX6_reason_216 (by decide) ?_
                          cases hT
                          exact W.iret hx hb hr (fun t ht hW => mx_end Z t ht _) Z.2.2.2 dX6_reason_220
                      · replace hT := mx_f hT h_29
                        refine lv_iconst (v := (1 : Int32)) hx hb dX6_reason_203 (by decide) ?_
                        refine lv_goto (tgt := 208) hx hb dX6_reason_204 (by decide) ?_
                        refine lv_istore (lv' := [(7, .int ((1 : Int32))), (0, .ref (mad E (246))), (2, .int (q_1)), (3, .int (q_2)), (4, .int ((-1 : Int32))), (6, .int (q_20))]) hx hb dX6_reason_208 hl (by decide) rfl (fun ls hl => ?_)
                        refine lv_iload hx hb dX6_reason_210 (lv_at hl 0 rfl) ?_
                        refine lv_if_eq (tgt := 219) hx hb dX6_reason_212 (by decide) (fun h_31 => ?_) (fun h_31 => ?_)
                        · replace hT := mx_t hT h_31
                          refine lv_iconst (v := (0 : Int32)) hx hb dX6_reason_219 (by decide) ?_
                          cases hT
                          exact W.iret hx hb hr (fun t ht hW => mx_end Z t ht _) Z.2.2.2 dX6_reason_220
                        · replace hT := mx_f hT h_31
                          refine lv_iconst (v := (5 : Int32)) hx hb dX6_reason_215 (by decide) ?_
                          refine lv_goto (tgt := 220) hx hb dX6_reason_216 (by decide) ?_
                          cases hT
                          exact W.iret hx hb hr (fun t ht hW => mx_end Z t ht _) Z.2.2.2 dX6_reason_220
                  · replace hT := mx_f hT h_22
                    refine lv_iconst (v := (4 : Int32)) hx hb dX6_reason_168 (by decide) ?_
                    cases hT
                    exact W.iret hx hb hr (fun t ht hW => mx_end Z t ht _) Z.2.2.2 dX6_reason_169
              · replace hT := mx_f hT h_16
                refine lv_iconst (v := (0 : Int32)) hx hb dX6_reason_130 (by decide) ?_
                cases hT
                exact W.iret hx hb hr (fun t ht hW => mx_end Z t ht _) Z.2.2.2 dX6_reason_131
          · replace hT := mx_f hT h_12
            refine lv_iconst (v := (3 : Int32)) hx hb dX6_reason_111 (by decide) ?_
            cases hT
            exact W.iret hx hb hr (fun t ht hW => mx_end Z t ht _) Z.2.2.2 dX6_reason_112
        · replace hT := mx_f hT h_9
          refine lv_iconst (v := (2 : Int32)) hx hb dX6_reason_94 (by decide) ?_
          cases hT
          exact W.iret hx hb hr (fun t ht hW => mx_end Z t ht _) Z.2.2.2 dX6_reason_95
      · replace hT := mx_t hT h_5
        refine lv_iconst (v := (1 : Int32)) hx hb dX6_reason_66 (by decide) ?_
        refine lv_goto (tgt := 71) hx hb dX6_reason_67 (by decide) ?_
        refine lv_istore (lv' := [(4, .int ((1 : Int32))), (3, .int (q_2)), (2, .int (q_1)), (0, .ref (mad E (246))), (1, .int (x1))]) hx hb dX6_reason_71 hl (by decide) rfl (fun ls hl => ?_)
        refine lv_iload_n hx hb dX6_reason_73 rfl (lv_at hl 2 rfl) ?_
        refine lv_iload hx hb dX6_reason_74 (lv_at hl 0 rfl) ?_
        refine lv_iadd hx hb dX6_reason_76 ?_
        obtain ⟨v_32, e_v_32, hT⟩ := mx_nm hT
        refine mx_tops (congrArg (fun z => (.int (z) :: [] : List Value)) e_v_32) ?_
        refine lv_istore (lv' := [(5, .int (v_32)), (4, .int ((1 : Int32))), (3, .int (q_2)), (2, .int (q_1)), (0, .ref (mad E (246))), (1, .int (x1))]) hx hb dX6_reason_77 hl (by decide) rfl (fun ls hl => ?_)
        refine lv_aload_n hx hb dX6_reason_79 rfl (lv_at hl 4 rfl) ?_
        refine lv_iload hx hb dX6_reason_80 (lv_at hl 0 rfl) ?_
        refine lv_iconst (v := (2 : Int32)) hx hb dX6_reason_82 (by decide) ?_
        obtain ⟨q_33, h_q_33, hT⟩ := mx_bind hT
        refine mx_callV (As := [.int (v_32), .int ((2 : Int32))]) (rest := []) (st1 := [.int (q_33)]) (C := RX6) (T := TX6) (N := 11) (ci := 6) X Z hl.1 (c6_seg l E hJ hc _ _ _ _ h_q_33) wd_21_23 wd_22_0 wd_22_1 wd_1_5 wd_22_2 hd6_seg ⟨Nat.le_trans (by decide) hR.1, Nat.le_trans (by decide) hR.2⟩ ⟨Nat.zero_le _, Nat.zero_le _⟩ hc.i (hc.c _) rfl (Nat.le_of_ble_eq_true rfl) rfl rfl dX6_reason_83 (fun H locs Z => ?_)
        refine lv_aload_n hx hb dX6_reason_86 rfl (lv_at hl 4 rfl) ?_
        refine lv_iconst (v := (0 : Int32)) hx hb dX6_reason_87 (by decide) ?_
        obtain ⟨q_34, h_q_34, hT⟩ := mx_bind hT
        refine mx_callV (As := [.int ((0 : Int32))]) (rest := [.int (q_33)]) (st1 := [.int (q_34), .int (q_33)]) (C := RX6) (T := TX6) (N := 11) (ci := 6) X Z hl.1 (c6_other l E hJ hc _ _ _ h_q_34) wd_14_8 wd_14_9 wd_14_10 wd_1_5 wd_14_11 hd6_other ⟨Nat.le_trans (by decide) hR.1, Nat.le_trans (by decide) hR.2⟩ ⟨Nat.zero_le _, Nat.zero_le _⟩ hc.i (hc.c _) rfl (Nat.le_of_ble_eq_true rfl) rfl rfl dX6_reason_88 (fun H locs Z => ?_)
        refine lv_icmp_le (tgt := 96) hx hb dX6_reason_91 (by decide) (fun h_35 => ?_) (fun h_35 => ?_)
        · replace hT := mx_t hT h_35
          refine lv_aload_n hx hb dX6_reason_96 rfl (lv_at hl 4 rfl) ?_
          refine lv_iload hx hb dX6_reason_97 (lv_at hl 0 rfl) ?_
          obtain ⟨q_36, h_q_36, hT⟩ := mx_bind hT
          refine mx_callV (As := [.int (v_32)]) (rest := []) (st1 := [.int (q_36)]) (C := RX6) (T := TX6) (N := 11) (ci := 6) X Z hl.1 (c6_trainsIn l E hJ hc _ _ _ h_q_36) wd_22_3 wd_22_4 wd_22_5 wd_1_5 wd_22_6 hd6_trainsIn ⟨Nat.le_trans (by decide) hR.1, Nat.le_trans (by decide) hR.2⟩ ⟨Nat.zero_le _, Nat.zero_le _⟩ hc.i (hc.c _) rfl (Nat.le_of_ble_eq_true rfl) rfl rfl dX6_reason_99 (fun H locs Z => ?_)
          refine lv_aload_n hx hb dX6_reason_102 rfl (lv_at hl 4 rfl) ?_
          refine lv_iload hx hb dX6_reason_103 (lv_at hl 0 rfl) ?_
          obtain ⟨q_37, h_q_37, hT⟩ := mx_bind hT
          refine mx_callV (As := [.int (v_32)]) (rest := [.int (q_36)]) (st1 := [.int (q_37), .int (q_36)]) (C := RX6) (T := TX6) (N := 11) (ci := 6) X Z hl.1 (c6_room l E hJ hc _ _ _ h_q_37) wd_22_7 wd_22_8 wd_22_9 wd_1_5 wd_22_10 hd6_room ⟨Nat.le_trans (by decide) hR.1, Nat.le_trans (by decide) hR.2⟩ ⟨Nat.zero_le _, Nat.zero_le _⟩ hc.i (hc.c _) rfl (Nat.le_of_ble_eq_true rfl) rfl rfl dX6_reason_105 (fun H locs Z => ?_)
          refine lv_icmp_lt (tgt := 113) hx hb dX6_reason_108 (by decide) (fun h_38 => ?_) (fun h_38 => ?_)
          · replace hT := mx_t hT h_38
            refine lv_aload_n hx hb dX6_reason_113 rfl (lv_at hl 4 rfl) ?_
            refine lv_iload_n hx hb dX6_reason_114 rfl (lv_at hl 3 rfl) ?_
            obtain ⟨q_39, h_q_39, hT⟩ := mx_bind hT
            refine mx_callV (As := [.int (q_1)]) (rest := []) (st1 := [.int (q_39)]) (C := RX6) (T := TX6) (N := 11) (ci := 6) X Z hl.1 (c6_isPassing l E hJ hc _ _ _ h_q_39) wd_22_15 wd_22_16 wd_22_17 wd_1_5 wd_22_18 hd6_isPassing ⟨Nat.le_trans (by decide) hR.1, Nat.le_trans (by decide) hR.2⟩ ⟨Nat.zero_le _, Nat.zero_le _⟩ hc.i (hc.c _) rfl (Nat.le_of_ble_eq_true rfl) rfl rfl dX6_reason_115 (fun H locs Z => ?_)
            refine lv_if_eq (tgt := 130) hx hb dX6_reason_118 (by decide) (fun h_40 => ?_) (fun h_40 => ?_)
            · replace hT := mx_t hT h_40
              refine lv_iconst (v := (0 : Int32)) hx hb dX6_reason_130 (by decide) ?_
              cases hT
              exact W.iret hx hb hr (fun t ht hW => mx_end Z t ht _) Z.2.2.2 dX6_reason_131
            · replace hT := mx_f hT h_40
              refine lv_aload_n hx hb dX6_reason_121 rfl (lv_at hl 4 rfl) ?_
              refine lv_iload hx hb dX6_reason_122 (lv_at hl 0 rfl) ?_
              obtain ⟨q_41, h_q_41, hT⟩ := mx_bind hT
              refine mx_callV (As := [.int (v_32)]) (rest := []) (st1 := [.int (q_41)]) (C := RX6) (T := TX6) (N := 11) (ci := 6) X Z hl.1 (c6_isPassing l E hJ hc _ _ _ h_q_41) wd_22_15 wd_22_16 wd_22_17 wd_1_5 wd_22_18 hd6_isPassing ⟨Nat.le_trans (by decide) hR.1, Nat.le_trans (by decide) hR.2⟩ ⟨Nat.zero_le _, Nat.zero_le _⟩ hc.i (hc.c _) rfl (Nat.le_of_ble_eq_true rfl) rfl rfl dX6_reason_124 (fun H locs Z => ?_)
              refine lv_if_eq (tgt := 132) hx hb dX6_reason_127 (by decide) (fun h_42 => ?_) (fun h_42 => ?_)
              · replace hT := mx_t hT h_42
                refine lv_iload hx hb dX6_reason_132 (lv_at hl 0 rfl) ?_
                refine lv_istore (lv' := [(6, .int (v_32)), (5, .int (v_32)), (4, .int ((1 : Int32))), (3, .int (q_2)), (2, .int (q_1)), (0, .ref (mad E (246))), (1, .int (x1))]) hx hb dX6_reason_134 hl (by decide) rfl (fun ls hl => ?_)
                obtain ⟨q_43, h_q_43, hT⟩ := mx_bind hT
                refine k6_reason_136 X hR hJ hc _ _ _ _ _ _ _ _ _ _ h_q_43 Z (lv_sub (l' := [(0, .ref (mad E (246))), (2, .int (q_1)), (3, .int (q_2)), (4, .int ((1 : Int32))), (6, .int (v_32))]) hl [5, 4, 3, 2, 0] rfl) (fun H locs ls Z hl => ?_)
                · refine lv_aload_n hx hb dX6_reason_155 rfl (lv_at hl 0 rfl) ?_
                  refine lv_iload_n hx hb dX6_reason_156 rfl (lv_at hl 1 rfl) ?_
                  refine lv_iload hx hb dX6_reason_157 (lv_at hl 4 rfl) ?_
                  refine lv_iconst (v := (1 : Int32)) hx hb dX6_reason_159 (by decide) ?_
                  refine lv_iload_n hx hb dX6_reason_160 rfl (lv_at hl 2 rfl) ?_
                  refine lv_isub hx hb dX6_reason_161 ?_
                  obtain ⟨q_44, h_q_44, hT⟩ := mx_bind hT
                  refine mx_callV (As := [.int (q_1), .int (q_43), .int (((1 : Int32)) - q_2)]) (rest := []) (st1 := [.int (q_44)]) (C := RX6) (T := TX6) (N := 11) (ci := 6) X Z hl.1 (c6_between l E hJ hc _ _ _ _ _ h_q_44) wd_22_19 wd_22_20 wd_22_21 wd_1_5 wd_22_22 hd6_between ⟨Nat.le_trans (by decide) hR.1, Nat.le_trans (by decide) hR.2⟩ ⟨Nat.zero_le _, Nat.zero_le _⟩ hc.i (hc.c _) rfl (Nat.le_of_ble_eq_true rfl) rfl rfl dX6_reason_162 (fun H locs Z => ?_)
                  refine lv_if_le (tgt := 170) hx hb dX6_reason_165 (by decide) (fun h_45 => ?_) (fun h_45 => ?_)
                  · replace hT := mx_t hT h_45
                    refine lv_aload_n hx hb dX6_reason_170 rfl (lv_at hl 0 rfl) ?_
                    refine lv_iload hx hb dX6_reason_171 (lv_at hl 4 rfl) ?_
                    obtain ⟨q_46, h_q_46, hT⟩ := mx_bind hT
                    refine mx_callV (As := [.int (q_43)]) (rest := []) (st1 := [.int (q_46)]) (C := RX6) (T := TX6) (N := 11) (ci := 6) X Z hl.1 (c6_isEnd l E hJ hc _ _ _ h_q_46) wd_22_11 wd_22_12 wd_22_13 wd_1_5 wd_22_14 hd6_isEnd ⟨Nat.le_trans (by decide) hR.1, Nat.le_trans (by decide) hR.2⟩ ⟨Nat.zero_le _, Nat.zero_le _⟩ hc.i (hc.c _) rfl (Nat.le_of_ble_eq_true rfl) rfl rfl dX6_reason_173 (fun H locs Z => ?_)
                    refine lv_if_ne (tgt := 207) hx hb dX6_reason_176 (by decide) (fun h_47 => ?_) (fun h_47 => ?_)
                    · replace hT := mx_f hT h_47
                      refine lv_iconst (v := (0 : Int32)) hx hb dX6_reason_207 (by decide) ?_
                      refine lv_istore (lv' := [(7, .int ((0 : Int32))), (0, .ref (mad E (246))), (2, .int (q_1)), (3, .int (q_2)), (4, .int ((1 : Int32))), (6, .int (q_43))]) hx hb dX6_reason_208 hl (by decide) rfl (fun ls hl => ?_)
                      refine lv_iload hx hb dX6_reason_210 (lv_at hl 0 rfl) ?_
                      refine lv_if_eq (tgt := 219) hx hb dX6_reason_212 (by decide) (fun h_48 => ?_) (fun h_48 => ?_)
                      · replace hT := mx_t hT h_48
                        refine lv_iconst (v := (0 : Int32)) hx hb dX6_reason_219 (by decide) ?_
                        cases hT
                        exact W.iret hx hb hr (fun t ht hW => mx_end Z t ht _) Z.2.2.2 dX6_reason_220
                      · replace hT := mx_f hT h_48
                        refine lv_iconst (v := (5 : Int32)) hx hb dX6_reason_215 (by decide) ?_
                        refine lv_goto (tgt := 220) hx hb dX6_reason_216 (by decide) ?_
                        cases hT
                        exact W.iret hx hb hr (fun t ht hW => mx_end Z t ht _) Z.2.2.2 dX6_reason_220
                    · replace hT := mx_t hT h_47
                      refine lv_aload_n hx hb dX6_reason_179 rfl (lv_at hl 0 rfl) ?_
                      refine lv_iload hx hb dX6_reason_180 (lv_at hl 4 rfl) ?_
                      obtain ⟨q_49, h_q_49, hT⟩ := mx_bind hT
                      refine mx_callV (As := [.int (q_43)]) (rest := []) (st1 := [.int (q_49)]) (C := RX6) (T := TX6) (N := 11) (ci := 6) X Z hl.1 (c6_trainsIn l E hJ hc _ _ _ h_q_49) wd_22_3 wd_22_4 wd_22_5 wd_1_5 wd_22_6 hd6_trainsIn ⟨Nat.le_trans (by decide) hR.1, Nat.le_trans (by decide) hR.2⟩ ⟨Nat.zero_le _, Nat.zero_le _⟩ hc.i (hc.c _) rfl (Nat.le_of_ble_eq_true rfl) rfl rfl dX6_reason_182 (fun H locs Z => ?_)
                      refine lv_aload_n hx hb dX6_reason_185 rfl (lv_at hl 0 rfl) ?_
                      refine lv_iload_n hx hb dX6_reason_186 rfl (lv_at hl 1 rfl) ?_
                      refine lv_iload hx hb dX6_reason_187 (lv_at hl 4 rfl) ?_
                      refine lv_iload_n hx hb dX6_reason_189 rfl (lv_at hl 2 rfl) ?_
                      obtain ⟨q_50, h_q_50, hT⟩ := mx_bind hT
                      refine mx_callV (As := [.int (q_1), .int (q_43), .int (q_2)]) (rest := [.int (q_49)]) (st1 := [.int (q_50), .int (q_49)]) (C := RX6) (T := TX6) (N := 11) (ci := 6) X Z hl.1 (c6_between l E hJ hc _ _ _ _ _ h_q_50) wd_22_19 wd_22_20 wd_22_21 wd_1_5 wd_22_22 hd6_between ⟨Nat.le_trans (by decide) hR.1, Nat.le_trans (by decide) hR.2⟩ ⟨Nat.zero_le _, Nat.zero_le _⟩ hc.i (hc.c _) rfl (Nat.le_of_ble_eq_true rfl) rfl rfl dX6_reason_190 (fun H locs Z => ?_)
                      refine lv_iadd hx hb dX6_reason_193 ?_
                      refine lv_aload_n hx hb dX6_reason_194 rfl (lv_at hl 0 rfl) ?_
                      refine lv_iload hx hb dX6_reason_195 (lv_at hl 4 rfl) ?_
                      obtain ⟨q_51, h_q_51, hT⟩ := mx_bind hT
                      refine mx_callV (As := [.int (q_43)]) (rest := [.int (q_49 + q_50)]) (st1 := [.int (q_51), .int (q_49 + q_50)]) (C := RX6) (T := TX6) (N := 11) (ci := 6) X Z hl.1 (c6_room l E hJ hc _ _ _ h_q_51) wd_22_7 wd_22_8 wd_22_9 wd_1_5 wd_22_10 hd6_room ⟨Nat.le_trans (by decide) hR.1, Nat.le_trans (by decide) hR.2⟩ ⟨Nat.zero_le _, Nat.zero_le _⟩ hc.i (hc.c _) rfl (Nat.le_of_ble_eq_true rfl) rfl rfl dX6_reason_197 (fun H locs Z => ?_)
                      refine lv_icmp_lt (tgt := 207) hx hb dX6_reason_200 (by decide) (fun h_52 => ?_) (fun h_52 => ?_)
                      · replace hT := mx_t hT h_52
                        refine lv_iconst (v := (0 : Int32)) hx hb dX6_reason_207 (by decide) ?_
                        refine lv_istore (lv' := [(7, .int ((0 : Int32))), (0, .ref (mad E (246))), (2, .int (q_1)), (3, .int (q_2)), (4, .int ((1 : Int32))), (6, .int (q_43))]) hx hb dX6_reason_208 hl (by decide) rfl (fun ls hl => ?_)
                        refine lv_iload hx hb dX6_reason_210 (lv_at hl 0 rfl) ?_
                        refine lv_if_eq (tgt := 219) hx hb dX6_reason_212 (by decide) (fun h_53 => ?_) (fun h_53 => ?_)
                        · replace hT := mx_t hT h_53
                          refine lv_iconst (v := (0 : Int32)) hx hb dX6_reason_219 (by decide) ?_
                          cases hT
                          exact W.iret hx hb hr (fun t ht hW => mx_end Z t ht _) Z.2.2.2 dX6_reason_220
                        · replace hT := mx_f hT h_53
                          refine lv_iconst (v := (5 : Int32)) hx hb dX6_reason_215 (by decide) ?_
                          refine lv_goto (tgt := 220) hx hb dX6_reason_216 (by decide) ?_
                          cases hT
                          exact W.iret hx hb hr (fun t ht hW => mx_end Z t ht _) Z.2.2.2 dX6_reason_220
                      · replace hT := mx_f hT h_52
                        refine lv_iconst (v := (1 : Int32)) hx hb dX6_reason_203 (by decide) ?_
                        refine lv_goto (tgt := 208) hx hb dX6_reason_204 (by decide) ?_
                        refine lv_istore (lv' := [(7, .int ((1 : Int32))), (0, .ref (mad E (246))), (2, .int (q_1)), (3, .int (q_2)), (4, .int ((1 : Int32))), (6, .int (q_43))]) hx hb dX6_reason_208 hl (by decide) rfl (fun ls hl => ?_)
                        refine lv_iload hx hb dX6_reason_210 (lv_at hl 0 rfl) ?_
                        refine lv_if_eq (tgt := 219) hx hb dX6_reason_212 (by decide) (fun h_54 => ?_) (fun h_54 => ?_)
                        · replace hT := mx_t hT h_54
                          refine lv_iconst (v := (0 : Int32)) hx hb dX6_reason_219 (by decide) ?_
                          cases hT
                          exact W.iret hx hb hr (fun t ht hW => mx_end Z t ht _) Z.2.2.2 dX6_reason_220
                        · replace hT := mx_f hT h_54
                          refine lv_iconst (v := (5 : Int32)) hx hb dX6_reason_215 (by decide) ?_
                          refine lv_goto (tgt := 220) hx hb dX6_reason_216 (by decide) ?_
                          cases hT
                          exact W.iret hx hb hr (fun t ht hW => mx_end Z t ht _) Z.2.2.2 dX6_reason_220
                  · replace hT := mx_f hT h_45
                    refine lv_iconst (v := (4 : Int32)) hx hb dX6_reason_168 (by decide) ?_
                    cases hT
                    exact W.iret hx hb hr (fun t ht hW => mx_end Z t ht _) Z.2.2.2 dX6_reason_169
              · replace hT := mx_f hT h_42
                refine lv_iconst (v := (0 : Int32)) hx hb dX6_reason_130 (by decide) ?_
                cases hT
                exact W.iret hx hb hr (fun t ht hW => mx_end Z t ht _) Z.2.2.2 dX6_reason_131
          · replace hT := mx_f hT h_38
            refine lv_iconst (v := (3 : Int32)) hx hb dX6_reason_111 (by decide) ?_
            cases hT
            exact W.iret hx hb hr (fun t ht hW => mx_end Z t ht _) Z.2.2.2 dX6_reason_112
        · replace hT := mx_f hT h_35
          refine lv_iconst (v := (2 : Int32)) hx hb dX6_reason_94 (by decide) ?_
          cases hT
          exact W.iret hx hb hr (fun t ht hW => mx_end Z t ht _) Z.2.2.2 dX6_reason_95
    · replace hT := mx_t hT h_4
      refine lv_iload_n hx hb dX6_reason_38 rfl (lv_at hl 1 rfl) ?_
      refine lv_if_ne (tgt := 61) hx hb dX6_reason_39 (by decide) (fun h_55 => ?_) (fun h_55 => ?_)
      · replace hT := mx_f hT h_55
        refine lv_iload_n hx hb dX6_reason_61 rfl (lv_at hl 0 rfl) ?_
        refine lv_iconst (v := (1 : Int32)) hx hb dX6_reason_62 (by decide) ?_
        refine lv_icmp_ne (tgt := 70) hx hb dX6_reason_63 (by decide) (fun h_56 => ?_) (fun h_56 => ?_)
        · replace hT := mx_f hT h_56
          refine lv_iconst (v := (-1 : Int32)) hx hb dX6_reason_70 (by decide) ?_
          refine lv_istore (lv' := [(4, .int ((-1 : Int32))), (3, .int (q_2)), (2, .int (q_1)), (0, .ref (mad E (246))), (1, .int (x1))]) hx hb dX6_reason_71 hl (by decide) rfl (fun ls hl => ?_)
          refine lv_iload_n hx hb dX6_reason_73 rfl (lv_at hl 2 rfl) ?_
          refine lv_iload hx hb dX6_reason_74 (lv_at hl 0 rfl) ?_
          refine lv_iadd hx hb dX6_reason_76 ?_
          obtain ⟨v_57, e_v_57, hT⟩ := mx_nm hT
          refine mx_tops (congrArg (fun z => (.int (z) :: [] : List Value)) e_v_57) ?_
          refine lv_istore (lv' := [(5, .int (v_57)), (4, .int ((-1 : Int32))), (3, .int (q_2)), (2, .int (q_1)), (0, .ref (mad E (246))), (1, .int (x1))]) hx hb dX6_reason_77 hl (by decide) rfl (fun ls hl => ?_)
          refine lv_aload_n hx hb dX6_reason_79 rfl (lv_at hl 4 rfl) ?_
          refine lv_iload hx hb dX6_reason_80 (lv_at hl 0 rfl) ?_
          refine lv_iconst (v := (2 : Int32)) hx hb dX6_reason_82 (by decide) ?_
          obtain ⟨q_58, h_q_58, hT⟩ := mx_bind hT
          refine mx_callV (As := [.int (v_57), .int ((2 : Int32))]) (rest := []) (st1 := [.int (q_58)]) (C := RX6) (T := TX6) (N := 11) (ci := 6) X Z hl.1 (c6_seg l E hJ hc _ _ _ _ h_q_58) wd_21_23 wd_22_0 wd_22_1 wd_1_5 wd_22_2 hd6_seg ⟨Nat.le_trans (by decide) hR.1, Nat.le_trans (by decide) hR.2⟩ ⟨Nat.zero_le _, Nat.zero_le _⟩ hc.i (hc.c _) rfl (Nat.le_of_ble_eq_true rfl) rfl rfl dX6_reason_83 (fun H locs Z => ?_)
          refine lv_aload_n hx hb dX6_reason_86 rfl (lv_at hl 4 rfl) ?_
          refine lv_iconst (v := (0 : Int32)) hx hb dX6_reason_87 (by decide) ?_
          obtain ⟨q_59, h_q_59, hT⟩ := mx_bind hT
          refine mx_callV (As := [.int ((0 : Int32))]) (rest := [.int (q_58)]) (st1 := [.int (q_59), .int (q_58)]) (C := RX6) (T := TX6) (N := 11) (ci := 6) X Z hl.1 (c6_other l E hJ hc _ _ _ h_q_59) wd_14_8 wd_14_9 wd_14_10 wd_1_5 wd_14_11 hd6_other ⟨Nat.le_trans (by decide) hR.1, Nat.le_trans (by decide) hR.2⟩ ⟨Nat.zero_le _, Nat.zero_le _⟩ hc.i (hc.c _) rfl (Nat.le_of_ble_eq_true rfl) rfl rfl dX6_reason_88 (fun H locs Z => ?_)
          refine lv_icmp_le (tgt := 96) hx hb dX6_reason_91 (by decide) (fun h_60 => ?_) (fun h_60 => ?_)
          · replace hT := mx_t hT h_60
            refine lv_aload_n hx hb dX6_reason_96 rfl (lv_at hl 4 rfl) ?_
            refine lv_iload hx hb dX6_reason_97 (lv_at hl 0 rfl) ?_
            obtain ⟨q_61, h_q_61, hT⟩ := mx_bind hT
            refine mx_callV (As := [.int (v_57)]) (rest := []) (st1 := [.int (q_61)]) (C := RX6) (T := TX6) (N := 11) (ci := 6) X Z hl.1 (c6_trainsIn l E hJ hc _ _ _ h_q_61) wd_22_3 wd_22_4 wd_22_5 wd_1_5 wd_22_6 hd6_trainsIn ⟨Nat.le_trans (by decide) hR.1, Nat.le_trans (by decide) hR.2⟩ ⟨Nat.zero_le _, Nat.zero_le _⟩ hc.i (hc.c _) rfl (Nat.le_of_ble_eq_true rfl) rfl rfl dX6_reason_99 (fun H locs Z => ?_)
            refine lv_aload_n hx hb dX6_reason_102 rfl (lv_at hl 4 rfl) ?_
            refine lv_iload hx hb dX6_reason_103 (lv_at hl 0 rfl) ?_
            obtain ⟨q_62, h_q_62, hT⟩ := mx_bind hT
            refine mx_callV (As := [.int (v_57)]) (rest := [.int (q_61)]) (st1 := [.int (q_62), .int (q_61)]) (C := RX6) (T := TX6) (N := 11) (ci := 6) X Z hl.1 (c6_room l E hJ hc _ _ _ h_q_62) wd_22_7 wd_22_8 wd_22_9 wd_1_5 wd_22_10 hd6_room ⟨Nat.le_trans (by decide) hR.1, Nat.le_trans (by decide) hR.2⟩ ⟨Nat.zero_le _, Nat.zero_le _⟩ hc.i (hc.c _) rfl (Nat.le_of_ble_eq_true rfl) rfl rfl dX6_reason_105 (fun H locs Z => ?_)
            refine lv_icmp_lt (tgt := 113) hx hb dX6_reason_108 (by decide) (fun h_63 => ?_) (fun h_63 => ?_)
            · replace hT := mx_t hT h_63
              refine lv_aload_n hx hb dX6_reason_113 rfl (lv_at hl 4 rfl) ?_
              refine lv_iload_n hx hb dX6_reason_114 rfl (lv_at hl 3 rfl) ?_
              obtain ⟨q_64, h_q_64, hT⟩ := mx_bind hT
              refine mx_callV (As := [.int (q_1)]) (rest := []) (st1 := [.int (q_64)]) (C := RX6) (T := TX6) (N := 11) (ci := 6) X Z hl.1 (c6_isPassing l E hJ hc _ _ _ h_q_64) wd_22_15 wd_22_16 wd_22_17 wd_1_5 wd_22_18 hd6_isPassing ⟨Nat.le_trans (by decide) hR.1, Nat.le_trans (by decide) hR.2⟩ ⟨Nat.zero_le _, Nat.zero_le _⟩ hc.i (hc.c _) rfl (Nat.le_of_ble_eq_true rfl) rfl rfl dX6_reason_115 (fun H locs Z => ?_)
              refine lv_if_eq (tgt := 130) hx hb dX6_reason_118 (by decide) (fun h_65 => ?_) (fun h_65 => ?_)
              · replace hT := mx_t hT h_65
                refine lv_iconst (v := (0 : Int32)) hx hb dX6_reason_130 (by decide) ?_
                cases hT
                exact W.iret hx hb hr (fun t ht hW => mx_end Z t ht _) Z.2.2.2 dX6_reason_131
              · replace hT := mx_f hT h_65
                refine lv_aload_n hx hb dX6_reason_121 rfl (lv_at hl 4 rfl) ?_
                refine lv_iload hx hb dX6_reason_122 (lv_at hl 0 rfl) ?_
                obtain ⟨q_66, h_q_66, hT⟩ := mx_bind hT
                refine mx_callV (As := [.int (v_57)]) (rest := []) (st1 := [.int (q_66)]) (C := RX6) (T := TX6) (N := 11) (ci := 6) X Z hl.1 (c6_isPassing l E hJ hc _ _ _ h_q_66) wd_22_15 wd_22_16 wd_22_17 wd_1_5 wd_22_18 hd6_isPassing ⟨Nat.le_trans (by decide) hR.1, Nat.le_trans (by decide) hR.2⟩ ⟨Nat.zero_le _, Nat.zero_le _⟩ hc.i (hc.c _) rfl (Nat.le_of_ble_eq_true rfl) rfl rfl dX6_reason_124 (fun H locs Z => ?_)
                refine lv_if_eq (tgt := 132) hx hb dX6_reason_127 (by decide) (fun h_67 => ?_) (fun h_67 => ?_)
                · replace hT := mx_t hT h_67
                  refine lv_iload hx hb dX6_reason_132 (lv_at hl 0 rfl) ?_
                  refine lv_istore (lv' := [(6, .int (v_57)), (5, .int (v_57)), (4, .int ((-1 : Int32))), (3, .int (q_2)), (2, .int (q_1)), (0, .ref (mad E (246))), (1, .int (x1))]) hx hb dX6_reason_134 hl (by decide) rfl (fun ls hl => ?_)
                  obtain ⟨q_68, h_q_68, hT⟩ := mx_bind hT
                  refine k6_reason_136 X hR hJ hc _ _ _ _ _ _ _ _ _ _ h_q_68 Z (lv_sub (l' := [(0, .ref (mad E (246))), (2, .int (q_1)), (3, .int (q_2)), (4, .int ((-1 : Int32))), (6, .int (v_57))]) hl [5, 4, 3, 2, 0] rfl) (fun H locs ls Z hl => ?_)
                  · refine lv_aload_n hx hb dX6_reason_155 rfl (lv_at hl 0 rfl) ?_
                    refine lv_iload_n hx hb dX6_reason_156 rfl (lv_at hl 1 rfl) ?_
                    refine lv_iload hx hb dX6_reason_157 (lv_at hl 4 rfl) ?_
                    refine lv_iconst (v := (1 : Int32)) hx hb dX6_reason_159 (by decide) ?_
                    refine lv_iload_n hx hb dX6_reason_160 rfl (lv_at hl 2 rfl) ?_
                    refine lv_isub hx hb dX6_reason_161 ?_
                    obtain ⟨q_69, h_q_69, hT⟩ := mx_bind hT
                    refine mx_callV (As := [.int (q_1), .int (q_68), .int (((1 : Int32)) - q_2)]) (rest := []) (st1 := [.int (q_69)]) (C := RX6) (T := TX6) (N := 11) (ci := 6) X Z hl.1 (c6_between l E hJ hc _ _ _ _ _ h_q_69) wd_22_19 wd_22_20 wd_22_21 wd_1_5 wd_22_22 hd6_between ⟨Nat.le_trans (by decide) hR.1, Nat.le_trans (by decide) hR.2⟩ ⟨Nat.zero_le _, Nat.zero_le _⟩ hc.i (hc.c _) rfl (Nat.le_of_ble_eq_true rfl) rfl rfl dX6_reason_162 (fun H locs Z => ?_)
                    refine lv_if_le (tgt := 170) hx hb dX6_reason_165 (by decide) (fun h_70 => ?_) (fun h_70 => ?_)
                    · replace hT := mx_t hT h_70
                      refine lv_aload_n hx hb dX6_reason_170 rfl (lv_at hl 0 rfl) ?_
                      refine lv_iload hx hb dX6_reason_171 (lv_at hl 4 rfl) ?_
                      obtain ⟨q_71, h_q_71, hT⟩ := mx_bind hT
                      refine mx_callV (As := [.int (q_68)]) (rest := []) (st1 := [.int (q_71)]) (C := RX6) (T := TX6) (N := 11) (ci := 6) X Z hl.1 (c6_isEnd l E hJ hc _ _ _ h_q_71) wd_22_11 wd_22_12 wd_22_13 wd_1_5 wd_22_14 hd6_isEnd ⟨Nat.le_trans (by decide) hR.1, Nat.le_trans (by decide) hR.2⟩ ⟨Nat.zero_le _, Nat.zero_le _⟩ hc.i (hc.c _) rfl (Nat.le_of_ble_eq_true rfl) rfl rfl dX6_reason_173 (fun H locs Z => ?_)
                      refine lv_if_ne (tgt := 207) hx hb dX6_reason_176 (by decide) (fun h_72 => ?_) (fun h_72 => ?_)
                      · replace hT := mx_f hT h_72
                        refine lv_iconst (v := (0 : Int32)) hx hb dX6_reason_207 (by decide) ?_
                        refine lv_istore (lv' := [(7, .int ((0 : Int32))), (0, .ref (mad E (246))), (2, .int (q_1)), (3, .int (q_2)), (4, .int ((-1 : Int32))), (6, .int (q_68))]) hx hb dX6_reason_208 hl (by decide) rfl (fun ls hl => ?_)
                        refine lv_iload hx hb dX6_reason_210 (lv_at hl 0 rfl) ?_
                        refine lv_if_eq (tgt := 219) hx hb dX6_reason_212 (by decide) (fun h_73 => ?_) (fun h_73 => ?_)
                        · replace hT := mx_t hT h_73
                          refine lv_iconst (v := (0 : Int32)) hx hb dX6_reason_219 (by decide) ?_
                          cases hT
                          exact W.iret hx hb hr (fun t ht hW => mx_end Z t ht _) Z.2.2.2 dX6_reason_220
                        · replace hT := mx_f hT h_73
                          refine lv_iconst (v := (5 : Int32)) hx hb dX6_reason_215 (by decide) ?_
                          refine lv_goto (tgt := 220) hx hb dX6_reason_216 (by decide) ?_
                          cases hT
                          exact W.iret hx hb hr (fun t ht hW => mx_end Z t ht _) Z.2.2.2 dX6_reason_220
                      · replace hT := mx_t hT h_72
                        refine lv_aload_n hx hb dX6_reason_179 rfl (lv_at hl 0 rfl) ?_
                        refine lv_iload hx hb dX6_reason_180 (lv_at hl 4 rfl) ?_
                        obtain ⟨q_74, h_q_74, hT⟩ := mx_bind hT
                        refine mx_callV (As := [.int (q_68)]) (rest := []) (st1 := [.int (q_74)]) (C := RX6) (T := TX6) (N := 11) (ci := 6) X Z hl.1 (c6_trainsIn l E hJ hc _ _ _ h_q_74) wd_22_3 wd_22_4 wd_22_5 wd_1_5 wd_22_6 hd6_trainsIn ⟨Nat.le_trans (by decide) hR.1, Nat.le_trans (by decide) hR.2⟩ ⟨Nat.zero_le _, Nat.zero_le _⟩ hc.i (hc.c _) rfl (Nat.le_of_ble_eq_true rfl) rfl rfl dX6_reason_182 (fun H locs Z => ?_)
                        refine lv_aload_n hx hb dX6_reason_185 rfl (lv_at hl 0 rfl) ?_
                        refine lv_iload_n hx hb dX6_reason_186 rfl (lv_at hl 1 rfl) ?_
                        refine lv_iload hx hb dX6_reason_187 (lv_at hl 4 rfl) ?_
                        refine lv_iload_n hx hb dX6_reason_189 rfl (lv_at hl 2 rfl) ?_
                        obtain ⟨q_75, h_q_75, hT⟩ := mx_bind hT
                        refine mx_callV (As := [.int (q_1), .int (q_68), .int (q_2)]) (rest := [.int (q_74)]) (st1 := [.int (q_75), .int (q_74)]) (C := RX6) (T := TX6) (N := 11) (ci := 6) X Z hl.1 (c6_between l E hJ hc _ _ _ _ _ h_q_75) wd_22_19 wd_22_20 wd_22_21 wd_1_5 wd_22_22 hd6_between ⟨Nat.le_trans (by decide) hR.1, Nat.le_trans (by decide) hR.2⟩ ⟨Nat.zero_le _, Nat.zero_le _⟩ hc.i (hc.c _) rfl (Nat.le_of_ble_eq_true rfl) rfl rfl dX6_reason_190 (fun H locs Z => ?_)
                        refine lv_iadd hx hb dX6_reason_193 ?_
                        refine lv_aload_n hx hb dX6_reason_194 rfl (lv_at hl 0 rfl) ?_
                        refine lv_iload hx hb dX6_reason_195 (lv_at hl 4 rfl) ?_
                        obtain ⟨q_76, h_q_76, hT⟩ := mx_bind hT
                        refine mx_callV (As := [.int (q_68)]) (rest := [.int (q_74 + q_75)]) (st1 := [.int (q_76), .int (q_74 + q_75)]) (C := RX6) (T := TX6) (N := 11) (ci := 6) X Z hl.1 (c6_room l E hJ hc _ _ _ h_q_76) wd_22_7 wd_22_8 wd_22_9 wd_1_5 wd_22_10 hd6_room ⟨Nat.le_trans (by decide) hR.1, Nat.le_trans (by decide) hR.2⟩ ⟨Nat.zero_le _, Nat.zero_le _⟩ hc.i (hc.c _) rfl (Nat.le_of_ble_eq_true rfl) rfl rfl dX6_reason_197 (fun H locs Z => ?_)
                        refine lv_icmp_lt (tgt := 207) hx hb dX6_reason_200 (by decide) (fun h_77 => ?_) (fun h_77 => ?_)
                        · replace hT := mx_t hT h_77
                          refine lv_iconst (v := (0 : Int32)) hx hb dX6_reason_207 (by decide) ?_
                          refine lv_istore (lv' := [(7, .int ((0 : Int32))), (0, .ref (mad E (246))), (2, .int (q_1)), (3, .int (q_2)), (4, .int ((-1 : Int32))), (6, .int (q_68))]) hx hb dX6_reason_208 hl (by decide) rfl (fun ls hl => ?_)
                          refine lv_iload hx hb dX6_reason_210 (lv_at hl 0 rfl) ?_
                          refine lv_if_eq (tgt := 219) hx hb dX6_reason_212 (by decide) (fun h_78 => ?_) (fun h_78 => ?_)
                          · replace hT := mx_t hT h_78
                            refine lv_iconst (v := (0 : Int32)) hx hb dX6_reason_219 (by decide) ?_
                            cases hT
                            exact W.iret hx hb hr (fun t ht hW => mx_end Z t ht _) Z.2.2.2 dX6_reason_220
                          · replace hT := mx_f hT h_78
                            refine lv_iconst (v := (5 : Int32)) hx hb dX6_reason_215 (by decide) ?_
                            refine lv_goto (tgt := 220) hx hb dX6_reason_216 (by decide) ?_
                            cases hT
                            exact W.iret hx hb hr (fun t ht hW => mx_end Z t ht _) Z.2.2.2 dX6_reason_220
                        · replace hT := mx_f hT h_77
                          refine lv_iconst (v := (1 : Int32)) hx hb dX6_reason_203 (by decide) ?_
                          refine lv_goto (tgt := 208) hx hb dX6_reason_204 (by decide) ?_
                          refine lv_istore (lv' := [(7, .int ((1 : Int32))), (0, .ref (mad E (246))), (2, .int (q_1)), (3, .int (q_2)), (4, .int ((-1 : Int32))), (6, .int (q_68))]) hx hb dX6_reason_208 hl (by decide) rfl (fun ls hl => ?_)
                          refine lv_iload hx hb dX6_reason_210 (lv_at hl 0 rfl) ?_
                          refine lv_if_eq (tgt := 219) hx hb dX6_reason_212 (by decide) (fun h_79 => ?_) (fun h_79 => ?_)
                          · replace hT := mx_t hT h_79
                            refine lv_iconst (v := (0 : Int32)) hx hb dX6_reason_219 (by decide) ?_
                            cases hT
                            exact W.iret hx hb hr (fun t ht hW => mx_end Z t ht _) Z.2.2.2 dX6_reason_220
                          · replace hT := mx_f hT h_79
                            refine lv_iconst (v := (5 : Int32)) hx hb dX6_reason_215 (by decide) ?_
                            refine lv_goto (tgt := 220) hx hb dX6_reason_216 (by decide) ?_
                            cases hT
                            exact W.iret hx hb hr (fun t ht hW => mx_end Z t ht _) Z.2.2.2 dX6_reason_220
                    · replace hT := mx_f hT h_70
                      refine lv_iconst (v := (4 : Int32)) hx hb dX6_reason_168 (by decide) ?_
                      cases hT
                      exact W.iret hx hb hr (fun t ht hW => mx_end Z t ht _) Z.2.2.2 dX6_reason_169
                · replace hT := mx_f hT h_67
                  refine lv_iconst (v := (0 : Int32)) hx hb dX6_reason_130 (by decide) ?_
                  cases hT
                  exact W.iret hx hb hr (fun t ht hW => mx_end Z t ht _) Z.2.2.2 dX6_reason_131
            · replace hT := mx_f hT h_63
              refine lv_iconst (v := (3 : Int32)) hx hb dX6_reason_111 (by decide) ?_
              cases hT
              exact W.iret hx hb hr (fun t ht hW => mx_end Z t ht _) Z.2.2.2 dX6_reason_112
          · replace hT := mx_f hT h_60
            refine lv_iconst (v := (2 : Int32)) hx hb dX6_reason_94 (by decide) ?_
            cases hT
            exact W.iret hx hb hr (fun t ht hW => mx_end Z t ht _) Z.2.2.2 dX6_reason_95
        · replace hT := mx_t hT h_56
          refine lv_iconst (v := (1 : Int32)) hx hb dX6_reason_66 (by decide) ?_
          refine lv_goto (tgt := 71) hx hb dX6_reason_67 (by decide) ?_
          refine lv_istore (lv' := [(4, .int ((1 : Int32))), (3, .int (q_2)), (2, .int (q_1)), (0, .ref (mad E (246))), (1, .int (x1))]) hx hb dX6_reason_71 hl (by decide) rfl (fun ls hl => ?_)
          refine lv_iload_n hx hb dX6_reason_73 rfl (lv_at hl 2 rfl) ?_
          refine lv_iload hx hb dX6_reason_74 (lv_at hl 0 rfl) ?_
          refine lv_iadd hx hb dX6_reason_76 ?_
          obtain ⟨v_80, e_v_80, hT⟩ := mx_nm hT
          refine mx_tops (congrArg (fun z => (.int (z) :: [] : List Value)) e_v_80) ?_
          refine lv_istore (lv' := [(5, .int (v_80)), (4, .int ((1 : Int32))), (3, .int (q_2)), (2, .int (q_1)), (0, .ref (mad E (246))), (1, .int (x1))]) hx hb dX6_reason_77 hl (by decide) rfl (fun ls hl => ?_)
          refine lv_aload_n hx hb dX6_reason_79 rfl (lv_at hl 4 rfl) ?_
          refine lv_iload hx hb dX6_reason_80 (lv_at hl 0 rfl) ?_
          refine lv_iconst (v := (2 : Int32)) hx hb dX6_reason_82 (by decide) ?_
          obtain ⟨q_81, h_q_81, hT⟩ := mx_bind hT
          refine mx_callV (As := [.int (v_80), .int ((2 : Int32))]) (rest := []) (st1 := [.int (q_81)]) (C := RX6) (T := TX6) (N := 11) (ci := 6) X Z hl.1 (c6_seg l E hJ hc _ _ _ _ h_q_81) wd_21_23 wd_22_0 wd_22_1 wd_1_5 wd_22_2 hd6_seg ⟨Nat.le_trans (by decide) hR.1, Nat.le_trans (by decide) hR.2⟩ ⟨Nat.zero_le _, Nat.zero_le _⟩ hc.i (hc.c _) rfl (Nat.le_of_ble_eq_true rfl) rfl rfl dX6_reason_83 (fun H locs Z => ?_)
          refine lv_aload_n hx hb dX6_reason_86 rfl (lv_at hl 4 rfl) ?_
          refine lv_iconst (v := (0 : Int32)) hx hb dX6_reason_87 (by decide) ?_
          obtain ⟨q_82, h_q_82, hT⟩ := mx_bind hT
          refine mx_callV (As := [.int ((0 : Int32))]) (rest := [.int (q_81)]) (st1 := [.int (q_82), .int (q_81)]) (C := RX6) (T := TX6) (N := 11) (ci := 6) X Z hl.1 (c6_other l E hJ hc _ _ _ h_q_82) wd_14_8 wd_14_9 wd_14_10 wd_1_5 wd_14_11 hd6_other ⟨Nat.le_trans (by decide) hR.1, Nat.le_trans (by decide) hR.2⟩ ⟨Nat.zero_le _, Nat.zero_le _⟩ hc.i (hc.c _) rfl (Nat.le_of_ble_eq_true rfl) rfl rfl dX6_reason_88 (fun H locs Z => ?_)
          refine lv_icmp_le (tgt := 96) hx hb dX6_reason_91 (by decide) (fun h_83 => ?_) (fun h_83 => ?_)
          · replace hT := mx_t hT h_83
            refine lv_aload_n hx hb dX6_reason_96 rfl (lv_at hl 4 rfl) ?_
            refine lv_iload hx hb dX6_reason_97 (lv_at hl 0 rfl) ?_
            obtain ⟨q_84, h_q_84, hT⟩ := mx_bind hT
            refine mx_callV (As := [.int (v_80)]) (rest := []) (st1 := [.int (q_84)]) (C := RX6) (T := TX6) (N := 11) (ci := 6) X Z hl.1 (c6_trainsIn l E hJ hc _ _ _ h_q_84) wd_22_3 wd_22_4 wd_22_5 wd_1_5 wd_22_6 hd6_trainsIn ⟨Nat.le_trans (by decide) hR.1, Nat.le_trans (by decide) hR.2⟩ ⟨Nat.zero_le _, Nat.zero_le _⟩ hc.i (hc.c _) rfl (Nat.le_of_ble_eq_true rfl) rfl rfl dX6_reason_99 (fun H locs Z => ?_)
            refine lv_aload_n hx hb dX6_reason_102 rfl (lv_at hl 4 rfl) ?_
            refine lv_iload hx hb dX6_reason_103 (lv_at hl 0 rfl) ?_
            obtain ⟨q_85, h_q_85, hT⟩ := mx_bind hT
            refine mx_callV (As := [.int (v_80)]) (rest := [.int (q_84)]) (st1 := [.int (q_85), .int (q_84)]) (C := RX6) (T := TX6) (N := 11) (ci := 6) X Z hl.1 (c6_room l E hJ hc _ _ _ h_q_85) wd_22_7 wd_22_8 wd_22_9 wd_1_5 wd_22_10 hd6_room ⟨Nat.le_trans (by decide) hR.1, Nat.le_trans (by decide) hR.2⟩ ⟨Nat.zero_le _, Nat.zero_le _⟩ hc.i (hc.c _) rfl (Nat.le_of_ble_eq_true rfl) rfl rfl dX6_reason_105 (fun H locs Z => ?_)
            refine lv_icmp_lt (tgt := 113) hx hb dX6_reason_108 (by decide) (fun h_86 => ?_) (fun h_86 => ?_)
            · replace hT := mx_t hT h_86
              refine lv_aload_n hx hb dX6_reason_113 rfl (lv_at hl 4 rfl) ?_
              refine lv_iload_n hx hb dX6_reason_114 rfl (lv_at hl 3 rfl) ?_
              obtain ⟨q_87, h_q_87, hT⟩ := mx_bind hT
              refine mx_callV (As := [.int (q_1)]) (rest := []) (st1 := [.int (q_87)]) (C := RX6) (T := TX6) (N := 11) (ci := 6) X Z hl.1 (c6_isPassing l E hJ hc _ _ _ h_q_87) wd_22_15 wd_22_16 wd_22_17 wd_1_5 wd_22_18 hd6_isPassing ⟨Nat.le_trans (by decide) hR.1, Nat.le_trans (by decide) hR.2⟩ ⟨Nat.zero_le _, Nat.zero_le _⟩ hc.i (hc.c _) rfl (Nat.le_of_ble_eq_true rfl) rfl rfl dX6_reason_115 (fun H locs Z => ?_)
              refine lv_if_eq (tgt := 130) hx hb dX6_reason_118 (by decide) (fun h_88 => ?_) (fun h_88 => ?_)
              · replace hT := mx_t hT h_88
                refine lv_iconst (v := (0 : Int32)) hx hb dX6_reason_130 (by decide) ?_
                cases hT
                exact W.iret hx hb hr (fun t ht hW => mx_end Z t ht _) Z.2.2.2 dX6_reason_131
              · replace hT := mx_f hT h_88
                refine lv_aload_n hx hb dX6_reason_121 rfl (lv_at hl 4 rfl) ?_
                refine lv_iload hx hb dX6_reason_122 (lv_at hl 0 rfl) ?_
                obtain ⟨q_89, h_q_89, hT⟩ := mx_bind hT
                refine mx_callV (As := [.int (v_80)]) (rest := []) (st1 := [.int (q_89)]) (C := RX6) (T := TX6) (N := 11) (ci := 6) X Z hl.1 (c6_isPassing l E hJ hc _ _ _ h_q_89) wd_22_15 wd_22_16 wd_22_17 wd_1_5 wd_22_18 hd6_isPassing ⟨Nat.le_trans (by decide) hR.1, Nat.le_trans (by decide) hR.2⟩ ⟨Nat.zero_le _, Nat.zero_le _⟩ hc.i (hc.c _) rfl (Nat.le_of_ble_eq_true rfl) rfl rfl dX6_reason_124 (fun H locs Z => ?_)
                refine lv_if_eq (tgt := 132) hx hb dX6_reason_127 (by decide) (fun h_90 => ?_) (fun h_90 => ?_)
                · replace hT := mx_t hT h_90
                  refine lv_iload hx hb dX6_reason_132 (lv_at hl 0 rfl) ?_
                  refine lv_istore (lv' := [(6, .int (v_80)), (5, .int (v_80)), (4, .int ((1 : Int32))), (3, .int (q_2)), (2, .int (q_1)), (0, .ref (mad E (246))), (1, .int (x1))]) hx hb dX6_reason_134 hl (by decide) rfl (fun ls hl => ?_)
                  obtain ⟨q_91, h_q_91, hT⟩ := mx_bind hT
                  refine k6_reason_136 X hR hJ hc _ _ _ _ _ _ _ _ _ _ h_q_91 Z (lv_sub (l' := [(0, .ref (mad E (246))), (2, .int (q_1)), (3, .int (q_2)), (4, .int ((1 : Int32))), (6, .int (v_80))]) hl [5, 4, 3, 2, 0] rfl) (fun H locs ls Z hl => ?_)
                  · refine lv_aload_n hx hb dX6_reason_155 rfl (lv_at hl 0 rfl) ?_
                    refine lv_iload_n hx hb dX6_reason_156 rfl (lv_at hl 1 rfl) ?_
                    refine lv_iload hx hb dX6_reason_157 (lv_at hl 4 rfl) ?_
                    refine lv_iconst (v := (1 : Int32)) hx hb dX6_reason_159 (by decide) ?_
                    refine lv_iload_n hx hb dX6_reason_160 rfl (lv_at hl 2 rfl) ?_
                    refine lv_isub hx hb dX6_reason_161 ?_
                    obtain ⟨q_92, h_q_92, hT⟩ := mx_bind hT
                    refine mx_callV (As := [.int (q_1), .int (q_91), .int (((1 : Int32)) - q_2)]) (rest := []) (st1 := [.int (q_92)]) (C := RX6) (T := TX6) (N := 11) (ci := 6) X Z hl.1 (c6_between l E hJ hc _ _ _ _ _ h_q_92) wd_22_19 wd_22_20 wd_22_21 wd_1_5 wd_22_22 hd6_between ⟨Nat.le_trans (by decide) hR.1, Nat.le_trans (by decide) hR.2⟩ ⟨Nat.zero_le _, Nat.zero_le _⟩ hc.i (hc.c _) rfl (Nat.le_of_ble_eq_true rfl) rfl rfl dX6_reason_162 (fun H locs Z => ?_)
                    refine lv_if_le (tgt := 170) hx hb dX6_reason_165 (by decide) (fun h_93 => ?_) (fun h_93 => ?_)
                    · replace hT := mx_t hT h_93
                      refine lv_aload_n hx hb dX6_reason_170 rfl (lv_at hl 0 rfl) ?_
                      refine lv_iload hx hb dX6_reason_171 (lv_at hl 4 rfl) ?_
                      obtain ⟨q_94, h_q_94, hT⟩ := mx_bind hT
                      refine mx_callV (As := [.int (q_91)]) (rest := []) (st1 := [.int (q_94)]) (C := RX6) (T := TX6) (N := 11) (ci := 6) X Z hl.1 (c6_isEnd l E hJ hc _ _ _ h_q_94) wd_22_11 wd_22_12 wd_22_13 wd_1_5 wd_22_14 hd6_isEnd ⟨Nat.le_trans (by decide) hR.1, Nat.le_trans (by decide) hR.2⟩ ⟨Nat.zero_le _, Nat.zero_le _⟩ hc.i (hc.c _) rfl (Nat.le_of_ble_eq_true rfl) rfl rfl dX6_reason_173 (fun H locs Z => ?_)
                      refine lv_if_ne (tgt := 207) hx hb dX6_reason_176 (by decide) (fun h_95 => ?_) (fun h_95 => ?_)
                      · replace hT := mx_f hT h_95
                        refine lv_iconst (v := (0 : Int32)) hx hb dX6_reason_207 (by decide) ?_
                        refine lv_istore (lv' := [(7, .int ((0 : Int32))), (0, .ref (mad E (246))), (2, .int (q_1)), (3, .int (q_2)), (4, .int ((1 : Int32))), (6, .int (q_91))]) hx hb dX6_reason_208 hl (by decide) rfl (fun ls hl => ?_)
                        refine lv_iload hx hb dX6_reason_210 (lv_at hl 0 rfl) ?_
                        refine lv_if_eq (tgt := 219) hx hb dX6_reason_212 (by decide) (fun h_96 => ?_) (fun h_96 => ?_)
                        · replace hT := mx_t hT h_96
                          refine lv_iconst (v := (0 : Int32)) hx hb dX6_reason_219 (by decide) ?_
                          cases hT
                          exact W.iret hx hb hr (fun t ht hW => mx_end Z t ht _) Z.2.2.2 dX6_reason_220
                        · replace hT := mx_f hT h_96
                          refine lv_iconst (v := (5 : Int32)) hx hb dX6_reason_215 (by decide) ?_
                          refine lv_goto (tgt := 220) hx hb dX6_reason_216 (by decide) ?_
                          cases hT
                          exact W.iret hx hb hr (fun t ht hW => mx_end Z t ht _) Z.2.2.2 dX6_reason_220
                      · replace hT := mx_t hT h_95
                        refine lv_aload_n hx hb dX6_reason_179 rfl (lv_at hl 0 rfl) ?_
                        refine lv_iload hx hb dX6_reason_180 (lv_at hl 4 rfl) ?_
                        obtain ⟨q_97, h_q_97, hT⟩ := mx_bind hT
                        refine mx_callV (As := [.int (q_91)]) (rest := []) (st1 := [.int (q_97)]) (C := RX6) (T := TX6) (N := 11) (ci := 6) X Z hl.1 (c6_trainsIn l E hJ hc _ _ _ h_q_97) wd_22_3 wd_22_4 wd_22_5 wd_1_5 wd_22_6 hd6_trainsIn ⟨Nat.le_trans (by decide) hR.1, Nat.le_trans (by decide) hR.2⟩ ⟨Nat.zero_le _, Nat.zero_le _⟩ hc.i (hc.c _) rfl (Nat.le_of_ble_eq_true rfl) rfl rfl dX6_reason_182 (fun H locs Z => ?_)
                        refine lv_aload_n hx hb dX6_reason_185 rfl (lv_at hl 0 rfl) ?_
                        refine lv_iload_n hx hb dX6_reason_186 rfl (lv_at hl 1 rfl) ?_
                        refine lv_iload hx hb dX6_reason_187 (lv_at hl 4 rfl) ?_
                        refine lv_iload_n hx hb dX6_reason_189 rfl (lv_at hl 2 rfl) ?_
                        obtain ⟨q_98, h_q_98, hT⟩ := mx_bind hT
                        refine mx_callV (As := [.int (q_1), .int (q_91), .int (q_2)]) (rest := [.int (q_97)]) (st1 := [.int (q_98), .int (q_97)]) (C := RX6) (T := TX6) (N := 11) (ci := 6) X Z hl.1 (c6_between l E hJ hc _ _ _ _ _ h_q_98) wd_22_19 wd_22_20 wd_22_21 wd_1_5 wd_22_22 hd6_between ⟨Nat.le_trans (by decide) hR.1, Nat.le_trans (by decide) hR.2⟩ ⟨Nat.zero_le _, Nat.zero_le _⟩ hc.i (hc.c _) rfl (Nat.le_of_ble_eq_true rfl) rfl rfl dX6_reason_190 (fun H locs Z => ?_)
                        refine lv_iadd hx hb dX6_reason_193 ?_
                        refine lv_aload_n hx hb dX6_reason_194 rfl (lv_at hl 0 rfl) ?_
                        refine lv_iload hx hb dX6_reason_195 (lv_at hl 4 rfl) ?_
                        obtain ⟨q_99, h_q_99, hT⟩ := mx_bind hT
                        refine mx_callV (As := [.int (q_91)]) (rest := [.int (q_97 + q_98)]) (st1 := [.int (q_99), .int (q_97 + q_98)]) (C := RX6) (T := TX6) (N := 11) (ci := 6) X Z hl.1 (c6_room l E hJ hc _ _ _ h_q_99) wd_22_7 wd_22_8 wd_22_9 wd_1_5 wd_22_10 hd6_room ⟨Nat.le_trans (by decide) hR.1, Nat.le_trans (by decide) hR.2⟩ ⟨Nat.zero_le _, Nat.zero_le _⟩ hc.i (hc.c _) rfl (Nat.le_of_ble_eq_true rfl) rfl rfl dX6_reason_197 (fun H locs Z => ?_)
                        refine lv_icmp_lt (tgt := 207) hx hb dX6_reason_200 (by decide) (fun h_100 => ?_) (fun h_100 => ?_)
                        · replace hT := mx_t hT h_100
                          refine lv_iconst (v := (0 : Int32)) hx hb dX6_reason_207 (by decide) ?_
                          refine lv_istore (lv' := [(7, .int ((0 : Int32))), (0, .ref (mad E (246))), (2, .int (q_1)), (3, .int (q_2)), (4, .int ((1 : Int32))), (6, .int (q_91))]) hx hb dX6_reason_208 hl (by decide) rfl (fun ls hl => ?_)
                          refine lv_iload hx hb dX6_reason_210 (lv_at hl 0 rfl) ?_
                          refine lv_if_eq (tgt := 219) hx hb dX6_reason_212 (by decide) (fun h_101 => ?_) (fun h_101 => ?_)
                          · replace hT := mx_t hT h_101
                            refine lv_iconst (v := (0 : Int32)) hx hb dX6_reason_219 (by decide) ?_
                            cases hT
                            exact W.iret hx hb hr (fun t ht hW => mx_end Z t ht _) Z.2.2.2 dX6_reason_220
                          · replace hT := mx_f hT h_101
                            refine lv_iconst (v := (5 : Int32)) hx hb dX6_reason_215 (by decide) ?_
                            refine lv_goto (tgt := 220) hx hb dX6_reason_216 (by decide) ?_
                            cases hT
                            exact W.iret hx hb hr (fun t ht hW => mx_end Z t ht _) Z.2.2.2 dX6_reason_220
                        · replace hT := mx_f hT h_100
                          refine lv_iconst (v := (1 : Int32)) hx hb dX6_reason_203 (by decide) ?_
                          refine lv_goto (tgt := 208) hx hb dX6_reason_204 (by decide) ?_
                          refine lv_istore (lv' := [(7, .int ((1 : Int32))), (0, .ref (mad E (246))), (2, .int (q_1)), (3, .int (q_2)), (4, .int ((1 : Int32))), (6, .int (q_91))]) hx hb dX6_reason_208 hl (by decide) rfl (fun ls hl => ?_)
                          refine lv_iload hx hb dX6_reason_210 (lv_at hl 0 rfl) ?_
                          refine lv_if_eq (tgt := 219) hx hb dX6_reason_212 (by decide) (fun h_102 => ?_) (fun h_102 => ?_)
                          · replace hT := mx_t hT h_102
                            refine lv_iconst (v := (0 : Int32)) hx hb dX6_reason_219 (by decide) ?_
                            cases hT
                            exact W.iret hx hb hr (fun t ht hW => mx_end Z t ht _) Z.2.2.2 dX6_reason_220
                          · replace hT := mx_f hT h_102
                            refine lv_iconst (v := (5 : Int32)) hx hb dX6_reason_215 (by decide) ?_
                            refine lv_goto (tgt := 220) hx hb dX6_reason_216 (by decide) ?_
                            cases hT
                            exact W.iret hx hb hr (fun t ht hW => mx_end Z t ht _) Z.2.2.2 dX6_reason_220
                    · replace hT := mx_f hT h_93
                      refine lv_iconst (v := (4 : Int32)) hx hb dX6_reason_168 (by decide) ?_
                      cases hT
                      exact W.iret hx hb hr (fun t ht hW => mx_end Z t ht _) Z.2.2.2 dX6_reason_169
                · replace hT := mx_f hT h_90
                  refine lv_iconst (v := (0 : Int32)) hx hb dX6_reason_130 (by decide) ?_
                  cases hT
                  exact W.iret hx hb hr (fun t ht hW => mx_end Z t ht _) Z.2.2.2 dX6_reason_131
            · replace hT := mx_f hT h_86
              refine lv_iconst (v := (3 : Int32)) hx hb dX6_reason_111 (by decide) ?_
              cases hT
              exact W.iret hx hb hr (fun t ht hW => mx_end Z t ht _) Z.2.2.2 dX6_reason_112
          · replace hT := mx_f hT h_83
            refine lv_iconst (v := (2 : Int32)) hx hb dX6_reason_94 (by decide) ?_
            cases hT
            exact W.iret hx hb hr (fun t ht hW => mx_end Z t ht _) Z.2.2.2 dX6_reason_95
      · replace hT := mx_t hT h_55
        refine lv_aload_n hx hb dX6_reason_42 rfl (lv_at hl 2 rfl) ?_
        refine lv_iconst (v := (4 : Int32)) hx hb dX6_reason_43 (by decide) ?_
        obtain ⟨q_103, h_q_103, hT⟩ := mx_bind hT
        refine mx_callV (As := [.int ((4 : Int32))]) (rest := []) (st1 := [.int (q_103)]) (C := RX6) (T := TX6) (N := 11) (ci := 6) X Z hl.1 (c6_other l E hJ hc _ _ _ h_q_103) wd_14_8 wd_14_9 wd_14_10 wd_1_5 wd_14_11 hd6_other ⟨Nat.le_trans (by decide) hR.1, Nat.le_trans (by decide) hR.2⟩ ⟨Nat.zero_le _, Nat.zero_le _⟩ hc.i (hc.c _) rfl (Nat.le_of_ble_eq_true rfl) rfl rfl dX6_reason_44 (fun H locs Z => ?_)
        refine lv_aload_n hx hb dX6_reason_47 rfl (lv_at hl 2 rfl) ?_
        refine lv_iload_n hx hb dX6_reason_48 rfl (lv_at hl 3 rfl) ?_
        obtain ⟨q_104, h_q_104, hT⟩ := mx_bind hT
        refine mx_callV (As := [.int (x1)]) (rest := [.int (q_103)]) (st1 := [.int (q_104), .int (q_103)]) (C := RX6) (T := TX6) (N := 11) (ci := 6) X Z hl.1 (c6_wanted l E hJ hc _ _ _ h_q_104) wd_21_19 wd_21_20 wd_21_21 wd_1_5 wd_21_22 hd6_wanted ⟨Nat.le_trans (by decide) hR.1, Nat.le_trans (by decide) hR.2⟩ ⟨Nat.zero_le _, Nat.zero_le _⟩ hc.i (hc.c _) rfl (Nat.le_of_ble_eq_true rfl) rfl rfl dX6_reason_49 (fun H locs Z => ?_)
        refine lv_icmp_ge (tgt := 59) hx hb dX6_reason_52 (by decide) (fun h_105 => ?_) (fun h_105 => ?_)
        · replace hT := mx_t hT h_105
          refine lv_iconst (v := (0 : Int32)) hx hb dX6_reason_59 (by decide) ?_
          cases hT
          exact W.iret hx hb hr (fun t ht hW => mx_end Z t ht _) Z.2.2.2 dX6_reason_60
        · replace hT := mx_f hT h_105
          refine lv_iconst (v := (1 : Int32)) hx hb dX6_reason_55 (by decide) ?_
          refine lv_goto (tgt := 60) hx hb dX6_reason_56 (by decide) ?_
          cases hT
          exact W.iret hx hb hr (fun t ht hW => mx_end Z t ht _) Z.2.2.2 dX6_reason_60
  · replace hT := mx_t hT h_3
    refine lv_iload_n hx hb dX6_reason_19 rfl (lv_at hl 1 rfl) ?_
    refine lv_aload_n hx hb dX6_reason_20 rfl (lv_at hl 2 rfl) ?_
    refine mx_get (v := .ref (mad E (247))) (ci := 6) (C := RX6) (T := TX6) (N := 11) X Z hc.i (hc.c _) rfl inlX6 0 (by decide) wd_7_23 rfl dX6_reason_21 ?_
    refine lv_bipush (v := (72 : Int32)) hx hb dX6_reason_24 (by decide) ?_
    refine mx_iald X Z hc.z (mx_lit (by decide)) dX6_reason_26 ?_
    refine mx_tops (s2 := [.int (G 247 72), .int (q_1)]) rfl ?_
    refine lv_iconst (v := (1 : Int32)) hx hb dX6_reason_27 (by decide) ?_
    refine lv_isub hx hb dX6_reason_28 ?_
    refine lv_icmp_ne (tgt := 34) hx hb dX6_reason_29 (by decide) (fun h_106 => ?_) (fun h_106 => ?_)
    · replace hT := mx_f hT h_106
      refine lv_iload_n hx hb dX6_reason_34 rfl (lv_at hl 0 rfl) ?_
      refine lv_if_ne (tgt := 61) hx hb dX6_reason_35 (by decide) (fun h_107 => ?_) (fun h_107 => ?_)
      · replace hT := mx_f hT h_107
        refine lv_iload_n hx hb dX6_reason_61 rfl (lv_at hl 0 rfl) ?_
        refine lv_iconst (v := (1 : Int32)) hx hb dX6_reason_62 (by decide) ?_
        refine lv_icmp_ne (tgt := 70) hx hb dX6_reason_63 (by decide) (fun h_108 => ?_) (fun h_108 => ?_)
        · replace hT := mx_f hT h_108
          refine lv_iconst (v := (-1 : Int32)) hx hb dX6_reason_70 (by decide) ?_
          refine lv_istore (lv' := [(4, .int ((-1 : Int32))), (3, .int (q_2)), (2, .int (q_1)), (0, .ref (mad E (246))), (1, .int (x1))]) hx hb dX6_reason_71 hl (by decide) rfl (fun ls hl => ?_)
          refine lv_iload_n hx hb dX6_reason_73 rfl (lv_at hl 2 rfl) ?_
          refine lv_iload hx hb dX6_reason_74 (lv_at hl 0 rfl) ?_
          refine lv_iadd hx hb dX6_reason_76 ?_
          obtain ⟨v_109, e_v_109, hT⟩ := mx_nm hT
          refine mx_tops (congrArg (fun z => (.int (z) :: [] : List Value)) e_v_109) ?_
          refine lv_istore (lv' := [(5, .int (v_109)), (4, .int ((-1 : Int32))), (3, .int (q_2)), (2, .int (q_1)), (0, .ref (mad E (246))), (1, .int (x1))]) hx hb dX6_reason_77 hl (by decide) rfl (fun ls hl => ?_)
          refine lv_aload_n hx hb dX6_reason_79 rfl (lv_at hl 4 rfl) ?_
          refine lv_iload hx hb dX6_reason_80 (lv_at hl 0 rfl) ?_
          refine lv_iconst (v := (2 : Int32)) hx hb dX6_reason_82 (by decide) ?_
          obtain ⟨q_110, h_q_110, hT⟩ := mx_bind hT
          refine mx_callV (As := [.int (v_109), .int ((2 : Int32))]) (rest := []) (st1 := [.int (q_110)]) (C := RX6) (T := TX6) (N := 11) (ci := 6) X Z hl.1 (c6_seg l E hJ hc _ _ _ _ h_q_110) wd_21_23 wd_22_0 wd_22_1 wd_1_5 wd_22_2 hd6_seg ⟨Nat.le_trans (by decide) hR.1, Nat.le_trans (by decide) hR.2⟩ ⟨Nat.zero_le _, Nat.zero_le _⟩ hc.i (hc.c _) rfl (Nat.le_of_ble_eq_true rfl) rfl rfl dX6_reason_83 (fun H locs Z => ?_)
          refine lv_aload_n hx hb dX6_reason_86 rfl (lv_at hl 4 rfl) ?_
          refine lv_iconst (v := (0 : Int32)) hx hb dX6_reason_87 (by decide) ?_
          obtain ⟨q_111, h_q_111, hT⟩ := mx_bind hT
          refine mx_callV (As := [.int ((0 : Int32))]) (rest := [.int (q_110)]) (st1 := [.int (q_111), .int (q_110)]) (C := RX6) (T := TX6) (N := 11) (ci := 6) X Z hl.1 (c6_other l E hJ hc _ _ _ h_q_111) wd_14_8 wd_14_9 wd_14_10 wd_1_5 wd_14_11 hd6_other ⟨Nat.le_trans (by decide) hR.1, Nat.le_trans (by decide) hR.2⟩ ⟨Nat.zero_le _, Nat.zero_le _⟩ hc.i (hc.c _) rfl (Nat.le_of_ble_eq_true rfl) rfl rfl dX6_reason_88 (fun H locs Z => ?_)
          refine lv_icmp_le (tgt := 96) hx hb dX6_reason_91 (by decide) (fun h_112 => ?_) (fun h_112 => ?_)
          · replace hT := mx_t hT h_112
            refine lv_aload_n hx hb dX6_reason_96 rfl (lv_at hl 4 rfl) ?_
            refine lv_iload hx hb dX6_reason_97 (lv_at hl 0 rfl) ?_
            obtain ⟨q_113, h_q_113, hT⟩ := mx_bind hT
            refine mx_callV (As := [.int (v_109)]) (rest := []) (st1 := [.int (q_113)]) (C := RX6) (T := TX6) (N := 11) (ci := 6) X Z hl.1 (c6_trainsIn l E hJ hc _ _ _ h_q_113) wd_22_3 wd_22_4 wd_22_5 wd_1_5 wd_22_6 hd6_trainsIn ⟨Nat.le_trans (by decide) hR.1, Nat.le_trans (by decide) hR.2⟩ ⟨Nat.zero_le _, Nat.zero_le _⟩ hc.i (hc.c _) rfl (Nat.le_of_ble_eq_true rfl) rfl rfl dX6_reason_99 (fun H locs Z => ?_)
            refine lv_aload_n hx hb dX6_reason_102 rfl (lv_at hl 4 rfl) ?_
            refine lv_iload hx hb dX6_reason_103 (lv_at hl 0 rfl) ?_
            obtain ⟨q_114, h_q_114, hT⟩ := mx_bind hT
            refine mx_callV (As := [.int (v_109)]) (rest := [.int (q_113)]) (st1 := [.int (q_114), .int (q_113)]) (C := RX6) (T := TX6) (N := 11) (ci := 6) X Z hl.1 (c6_room l E hJ hc _ _ _ h_q_114) wd_22_7 wd_22_8 wd_22_9 wd_1_5 wd_22_10 hd6_room ⟨Nat.le_trans (by decide) hR.1, Nat.le_trans (by decide) hR.2⟩ ⟨Nat.zero_le _, Nat.zero_le _⟩ hc.i (hc.c _) rfl (Nat.le_of_ble_eq_true rfl) rfl rfl dX6_reason_105 (fun H locs Z => ?_)
            refine lv_icmp_lt (tgt := 113) hx hb dX6_reason_108 (by decide) (fun h_115 => ?_) (fun h_115 => ?_)
            · replace hT := mx_t hT h_115
              refine lv_aload_n hx hb dX6_reason_113 rfl (lv_at hl 4 rfl) ?_
              refine lv_iload_n hx hb dX6_reason_114 rfl (lv_at hl 3 rfl) ?_
              obtain ⟨q_116, h_q_116, hT⟩ := mx_bind hT
              refine mx_callV (As := [.int (q_1)]) (rest := []) (st1 := [.int (q_116)]) (C := RX6) (T := TX6) (N := 11) (ci := 6) X Z hl.1 (c6_isPassing l E hJ hc _ _ _ h_q_116) wd_22_15 wd_22_16 wd_22_17 wd_1_5 wd_22_18 hd6_isPassing ⟨Nat.le_trans (by decide) hR.1, Nat.le_trans (by decide) hR.2⟩ ⟨Nat.zero_le _, Nat.zero_le _⟩ hc.i (hc.c _) rfl (Nat.le_of_ble_eq_true rfl) rfl rfl dX6_reason_115 (fun H locs Z => ?_)
              refine lv_if_eq (tgt := 130) hx hb dX6_reason_118 (by decide) (fun h_117 => ?_) (fun h_117 => ?_)
              · replace hT := mx_t hT h_117
                refine lv_iconst (v := (0 : Int32)) hx hb dX6_reason_130 (by decide) ?_
                cases hT
                exact W.iret hx hb hr (fun t ht hW => mx_end Z t ht _) Z.2.2.2 dX6_reason_131
              · replace hT := mx_f hT h_117
                refine lv_aload_n hx hb dX6_reason_121 rfl (lv_at hl 4 rfl) ?_
                refine lv_iload hx hb dX6_reason_122 (lv_at hl 0 rfl) ?_
                obtain ⟨q_118, h_q_118, hT⟩ := mx_bind hT
                refine mx_callV (As := [.int (v_109)]) (rest := []) (st1 := [.int (q_118)]) (C := RX6) (T := TX6) (N := 11) (ci := 6) X Z hl.1 (c6_isPassing l E hJ hc _ _ _ h_q_118) wd_22_15 wd_22_16 wd_22_17 wd_1_5 wd_22_18 hd6_isPassing ⟨Nat.le_trans (by decide) hR.1, Nat.le_trans (by decide) hR.2⟩ ⟨Nat.zero_le _, Nat.zero_le _⟩ hc.i (hc.c _) rfl (Nat.le_of_ble_eq_true rfl) rfl rfl dX6_reason_124 (fun H locs Z => ?_)
                refine lv_if_eq (tgt := 132) hx hb dX6_reason_127 (by decide) (fun h_119 => ?_) (fun h_119 => ?_)
                · replace hT := mx_t hT h_119
                  refine lv_iload hx hb dX6_reason_132 (lv_at hl 0 rfl) ?_
                  refine lv_istore (lv' := [(6, .int (v_109)), (5, .int (v_109)), (4, .int ((-1 : Int32))), (3, .int (q_2)), (2, .int (q_1)), (0, .ref (mad E (246))), (1, .int (x1))]) hx hb dX6_reason_134 hl (by decide) rfl (fun ls hl => ?_)
                  obtain ⟨q_120, h_q_120, hT⟩ := mx_bind hT
                  refine k6_reason_136 X hR hJ hc _ _ _ _ _ _ _ _ _ _ h_q_120 Z (lv_sub (l' := [(0, .ref (mad E (246))), (2, .int (q_1)), (3, .int (q_2)), (4, .int ((-1 : Int32))), (6, .int (v_109))]) hl [5, 4, 3, 2, 0] rfl) (fun H locs ls Z hl => ?_)
                  · refine lv_aload_n hx hb dX6_reason_155 rfl (lv_at hl 0 rfl) ?_
                    refine lv_iload_n hx hb dX6_reason_156 rfl (lv_at hl 1 rfl) ?_
                    refine lv_iload hx hb dX6_reason_157 (lv_at hl 4 rfl) ?_
                    refine lv_iconst (v := (1 : Int32)) hx hb dX6_reason_159 (by decide) ?_
                    refine lv_iload_n hx hb dX6_reason_160 rfl (lv_at hl 2 rfl) ?_
                    refine lv_isub hx hb dX6_reason_161 ?_
                    obtain ⟨q_121, h_q_121, hT⟩ := mx_bind hT
                    refine mx_callV (As := [.int (q_1), .int (q_120), .int (((1 : Int32)) - q_2)]) (rest := []) (st1 := [.int (q_121)]) (C := RX6) (T := TX6) (N := 11) (ci := 6) X Z hl.1 (c6_between l E hJ hc _ _ _ _ _ h_q_121) wd_22_19 wd_22_20 wd_22_21 wd_1_5 wd_22_22 hd6_between ⟨Nat.le_trans (by decide) hR.1, Nat.le_trans (by decide) hR.2⟩ ⟨Nat.zero_le _, Nat.zero_le _⟩ hc.i (hc.c _) rfl (Nat.le_of_ble_eq_true rfl) rfl rfl dX6_reason_162 (fun H locs Z => ?_)
                    refine lv_if_le (tgt := 170) hx hb dX6_reason_165 (by decide) (fun h_122 => ?_) (fun h_122 => ?_)
                    · replace hT := mx_t hT h_122
                      refine lv_aload_n hx hb dX6_reason_170 rfl (lv_at hl 0 rfl) ?_
                      refine lv_iload hx hb dX6_reason_171 (lv_at hl 4 rfl) ?_
                      obtain ⟨q_123, h_q_123, hT⟩ := mx_bind hT
                      refine mx_callV (As := [.int (q_120)]) (rest := []) (st1 := [.int (q_123)]) (C := RX6) (T := TX6) (N := 11) (ci := 6) X Z hl.1 (c6_isEnd l E hJ hc _ _ _ h_q_123) wd_22_11 wd_22_12 wd_22_13 wd_1_5 wd_22_14 hd6_isEnd ⟨Nat.le_trans (by decide) hR.1, Nat.le_trans (by decide) hR.2⟩ ⟨Nat.zero_le _, Nat.zero_le _⟩ hc.i (hc.c _) rfl (Nat.le_of_ble_eq_true rfl) rfl rfl dX6_reason_173 (fun H locs Z => ?_)
                      refine lv_if_ne (tgt := 207) hx hb dX6_reason_176 (by decide) (fun h_124 => ?_) (fun h_124 => ?_)
                      · replace hT := mx_f hT h_124
                        refine lv_iconst (v := (0 : Int32)) hx hb dX6_reason_207 (by decide) ?_
                        refine lv_istore (lv' := [(7, .int ((0 : Int32))), (0, .ref (mad E (246))), (2, .int (q_1)), (3, .int (q_2)), (4, .int ((-1 : Int32))), (6, .int (q_120))]) hx hb dX6_reason_208 hl (by decide) rfl (fun ls hl => ?_)
                        refine lv_iload hx hb dX6_reason_210 (lv_at hl 0 rfl) ?_
                        refine lv_if_eq (tgt := 219) hx hb dX6_reason_212 (by decide) (fun h_125 => ?_) (fun h_125 => ?_)
                        · replace hT := mx_t hT h_125
                          refine lv_iconst (v := (0 : Int32)) hx hb dX6_reason_219 (by decide) ?_
                          cases hT
                          exact W.iret hx hb hr (fun t ht hW => mx_end Z t ht _) Z.2.2.2 dX6_reason_220
                        · replace hT := mx_f hT h_125
                          refine lv_iconst (v := (5 : Int32)) hx hb dX6_reason_215 (by decide) ?_
                          refine lv_goto (tgt := 220) hx hb dX6_reason_216 (by decide) ?_
                          cases hT
                          exact W.iret hx hb hr (fun t ht hW => mx_end Z t ht _) Z.2.2.2 dX6_reason_220
                      · replace hT := mx_t hT h_124
                        refine lv_aload_n hx hb dX6_reason_179 rfl (lv_at hl 0 rfl) ?_
                        refine lv_iload hx hb dX6_reason_180 (lv_at hl 4 rfl) ?_
                        obtain ⟨q_126, h_q_126, hT⟩ := mx_bind hT
                        refine mx_callV (As := [.int (q_120)]) (rest := []) (st1 := [.int (q_126)]) (C := RX6) (T := TX6) (N := 11) (ci := 6) X Z hl.1 (c6_trainsIn l E hJ hc _ _ _ h_q_126) wd_22_3 wd_22_4 wd_22_5 wd_1_5 wd_22_6 hd6_trainsIn ⟨Nat.le_trans (by decide) hR.1, Nat.le_trans (by decide) hR.2⟩ ⟨Nat.zero_le _, Nat.zero_le _⟩ hc.i (hc.c _) rfl (Nat.le_of_ble_eq_true rfl) rfl rfl dX6_reason_182 (fun H locs Z => ?_)
                        refine lv_aload_n hx hb dX6_reason_185 rfl (lv_at hl 0 rfl) ?_
                        refine lv_iload_n hx hb dX6_reason_186 rfl (lv_at hl 1 rfl) ?_
                        refine lv_iload hx hb dX6_reason_187 (lv_at hl 4 rfl) ?_
                        refine lv_iload_n hx hb dX6_reason_189 rfl (lv_at hl 2 rfl) ?_
                        obtain ⟨q_127, h_q_127, hT⟩ := mx_bind hT
                        refine mx_callV (As := [.int (q_1), .int (q_120), .int (q_2)]) (rest := [.int (q_126)]) (st1 := [.int (q_127), .int (q_126)]) (C := RX6) (T := TX6) (N := 11) (ci := 6) X Z hl.1 (c6_between l E hJ hc _ _ _ _ _ h_q_127) wd_22_19 wd_22_20 wd_22_21 wd_1_5 wd_22_22 hd6_between ⟨Nat.le_trans (by decide) hR.1, Nat.le_trans (by decide) hR.2⟩ ⟨Nat.zero_le _, Nat.zero_le _⟩ hc.i (hc.c _) rfl (Nat.le_of_ble_eq_true rfl) rfl rfl dX6_reason_190 (fun H locs Z => ?_)
                        refine lv_iadd hx hb dX6_reason_193 ?_
                        refine lv_aload_n hx hb dX6_reason_194 rfl (lv_at hl 0 rfl) ?_
                        refine lv_iload hx hb dX6_reason_195 (lv_at hl 4 rfl) ?_
                        obtain ⟨q_128, h_q_128, hT⟩ := mx_bind hT
                        refine mx_callV (As := [.int (q_120)]) (rest := [.int (q_126 + q_127)]) (st1 := [.int (q_128), .int (q_126 + q_127)]) (C := RX6) (T := TX6) (N := 11) (ci := 6) X Z hl.1 (c6_room l E hJ hc _ _ _ h_q_128) wd_22_7 wd_22_8 wd_22_9 wd_1_5 wd_22_10 hd6_room ⟨Nat.le_trans (by decide) hR.1, Nat.le_trans (by decide) hR.2⟩ ⟨Nat.zero_le _, Nat.zero_le _⟩ hc.i (hc.c _) rfl (Nat.le_of_ble_eq_true rfl) rfl rfl dX6_reason_197 (fun H locs Z => ?_)
                        refine lv_icmp_lt (tgt := 207) hx hb dX6_reason_200 (by decide) (fun h_129 => ?_) (fun h_129 => ?_)
                        · replace hT := mx_t hT h_129
                          refine lv_iconst (v := (0 : Int32)) hx hb dX6_reason_207 (by decide) ?_
                          refine lv_istore (lv' := [(7, .int ((0 : Int32))), (0, .ref (mad E (246))), (2, .int (q_1)), (3, .int (q_2)), (4, .int ((-1 : Int32))), (6, .int (q_120))]) hx hb dX6_reason_208 hl (by decide) rfl (fun ls hl => ?_)
                          refine lv_iload hx hb dX6_reason_210 (lv_at hl 0 rfl) ?_
                          refine lv_if_eq (tgt := 219) hx hb dX6_reason_212 (by decide) (fun h_130 => ?_) (fun h_130 => ?_)
                          · replace hT := mx_t hT h_130
                            refine lv_iconst (v := (0 : Int32)) hx hb dX6_reason_219 (by decide) ?_
                            cases hT
                            exact W.iret hx hb hr (fun t ht hW => mx_end Z t ht _) Z.2.2.2 dX6_reason_220
                          · replace hT := mx_f hT h_130
                            refine lv_iconst (v := (5 : Int32)) hx hb dX6_reason_215 (by decide) ?_
                            refine lv_goto (tgt := 220) hx hb dX6_reason_216 (by decide) ?_
                            cases hT
                            exact W.iret hx hb hr (fun t ht hW => mx_end Z t ht _) Z.2.2.2 dX6_reason_220
                        · replace hT := mx_f hT h_129
                          refine lv_iconst (v := (1 : Int32)) hx hb dX6_reason_203 (by decide) ?_
                          refine lv_goto (tgt := 208) hx hb dX6_reason_204 (by decide) ?_
                          refine lv_istore (lv' := [(7, .int ((1 : Int32))), (0, .ref (mad E (246))), (2, .int (q_1)), (3, .int (q_2)), (4, .int ((-1 : Int32))), (6, .int (q_120))]) hx hb dX6_reason_208 hl (by decide) rfl (fun ls hl => ?_)
                          refine lv_iload hx hb dX6_reason_210 (lv_at hl 0 rfl) ?_
                          refine lv_if_eq (tgt := 219) hx hb dX6_reason_212 (by decide) (fun h_131 => ?_) (fun h_131 => ?_)
                          · replace hT := mx_t hT h_131
                            refine lv_iconst (v := (0 : Int32)) hx hb dX6_reason_219 (by decide) ?_
                            cases hT
                            exact W.iret hx hb hr (fun t ht hW => mx_end Z t ht _) Z.2.2.2 dX6_reason_220
                          · replace hT := mx_f hT h_131
                            refine lv_iconst (v := (5 : Int32)) hx hb dX6_reason_215 (by decide) ?_
                            refine lv_goto (tgt := 220) hx hb dX6_reason_216 (by decide) ?_
                            cases hT
                            exact W.iret hx hb hr (fun t ht hW => mx_end Z t ht _) Z.2.2.2 dX6_reason_220
                    · replace hT := mx_f hT h_122
                      refine lv_iconst (v := (4 : Int32)) hx hb dX6_reason_168 (by decide) ?_
                      cases hT
                      exact W.iret hx hb hr (fun t ht hW => mx_end Z t ht _) Z.2.2.2 dX6_reason_169
                · replace hT := mx_f hT h_119
                  refine lv_iconst (v := (0 : Int32)) hx hb dX6_reason_130 (by decide) ?_
                  cases hT
                  exact W.iret hx hb hr (fun t ht hW => mx_end Z t ht _) Z.2.2.2 dX6_reason_131
            · replace hT := mx_f hT h_115
              refine lv_iconst (v := (3 : Int32)) hx hb dX6_reason_111 (by decide) ?_
              cases hT
              exact W.iret hx hb hr (fun t ht hW => mx_end Z t ht _) Z.2.2.2 dX6_reason_112
          · replace hT := mx_f hT h_112
            refine lv_iconst (v := (2 : Int32)) hx hb dX6_reason_94 (by decide) ?_
            cases hT
            exact W.iret hx hb hr (fun t ht hW => mx_end Z t ht _) Z.2.2.2 dX6_reason_95
        · replace hT := mx_t hT h_108
          refine lv_iconst (v := (1 : Int32)) hx hb dX6_reason_66 (by decide) ?_
          refine lv_goto (tgt := 71) hx hb dX6_reason_67 (by decide) ?_
          refine lv_istore (lv' := [(4, .int ((1 : Int32))), (3, .int (q_2)), (2, .int (q_1)), (0, .ref (mad E (246))), (1, .int (x1))]) hx hb dX6_reason_71 hl (by decide) rfl (fun ls hl => ?_)
          refine lv_iload_n hx hb dX6_reason_73 rfl (lv_at hl 2 rfl) ?_
          refine lv_iload hx hb dX6_reason_74 (lv_at hl 0 rfl) ?_
          refine lv_iadd hx hb dX6_reason_76 ?_
          obtain ⟨v_132, e_v_132, hT⟩ := mx_nm hT
          refine mx_tops (congrArg (fun z => (.int (z) :: [] : List Value)) e_v_132) ?_
          refine lv_istore (lv' := [(5, .int (v_132)), (4, .int ((1 : Int32))), (3, .int (q_2)), (2, .int (q_1)), (0, .ref (mad E (246))), (1, .int (x1))]) hx hb dX6_reason_77 hl (by decide) rfl (fun ls hl => ?_)
          refine lv_aload_n hx hb dX6_reason_79 rfl (lv_at hl 4 rfl) ?_
          refine lv_iload hx hb dX6_reason_80 (lv_at hl 0 rfl) ?_
          refine lv_iconst (v := (2 : Int32)) hx hb dX6_reason_82 (by decide) ?_
          obtain ⟨q_133, h_q_133, hT⟩ := mx_bind hT
          refine mx_callV (As := [.int (v_132), .int ((2 : Int32))]) (rest := []) (st1 := [.int (q_133)]) (C := RX6) (T := TX6) (N := 11) (ci := 6) X Z hl.1 (c6_seg l E hJ hc _ _ _ _ h_q_133) wd_21_23 wd_22_0 wd_22_1 wd_1_5 wd_22_2 hd6_seg ⟨Nat.le_trans (by decide) hR.1, Nat.le_trans (by decide) hR.2⟩ ⟨Nat.zero_le _, Nat.zero_le _⟩ hc.i (hc.c _) rfl (Nat.le_of_ble_eq_true rfl) rfl rfl dX6_reason_83 (fun H locs Z => ?_)
          refine lv_aload_n hx hb dX6_reason_86 rfl (lv_at hl 4 rfl) ?_
          refine lv_iconst (v := (0 : Int32)) hx hb dX6_reason_87 (by decide) ?_
          obtain ⟨q_134, h_q_134, hT⟩ := mx_bind hT
          refine mx_callV (As := [.int ((0 : Int32))]) (rest := [.int (q_133)]) (st1 := [.int (q_134), .int (q_133)]) (C := RX6) (T := TX6) (N := 11) (ci := 6) X Z hl.1 (c6_other l E hJ hc _ _ _ h_q_134) wd_14_8 wd_14_9 wd_14_10 wd_1_5 wd_14_11 hd6_other ⟨Nat.le_trans (by decide) hR.1, Nat.le_trans (by decide) hR.2⟩ ⟨Nat.zero_le _, Nat.zero_le _⟩ hc.i (hc.c _) rfl (Nat.le_of_ble_eq_true rfl) rfl rfl dX6_reason_88 (fun H locs Z => ?_)
          refine lv_icmp_le (tgt := 96) hx hb dX6_reason_91 (by decide) (fun h_135 => ?_) (fun h_135 => ?_)
          · replace hT := mx_t hT h_135
            refine lv_aload_n hx hb dX6_reason_96 rfl (lv_at hl 4 rfl) ?_
            refine lv_iload hx hb dX6_reason_97 (lv_at hl 0 rfl) ?_
            obtain ⟨q_136, h_q_136, hT⟩ := mx_bind hT
            refine mx_callV (As := [.int (v_132)]) (rest := []) (st1 := [.int (q_136)]) (C := RX6) (T := TX6) (N := 11) (ci := 6) X Z hl.1 (c6_trainsIn l E hJ hc _ _ _ h_q_136) wd_22_3 wd_22_4 wd_22_5 wd_1_5 wd_22_6 hd6_trainsIn ⟨Nat.le_trans (by decide) hR.1, Nat.le_trans (by decide) hR.2⟩ ⟨Nat.zero_le _, Nat.zero_le _⟩ hc.i (hc.c _) rfl (Nat.le_of_ble_eq_true rfl) rfl rfl dX6_reason_99 (fun H locs Z => ?_)
            refine lv_aload_n hx hb dX6_reason_102 rfl (lv_at hl 4 rfl) ?_
            refine lv_iload hx hb dX6_reason_103 (lv_at hl 0 rfl) ?_
            obtain ⟨q_137, h_q_137, hT⟩ := mx_bind hT
            refine mx_callV (As := [.int (v_132)]) (rest := [.int (q_136)]) (st1 := [.int (q_137), .int (q_136)]) (C := RX6) (T := TX6) (N := 11) (ci := 6) X Z hl.1 (c6_room l E hJ hc _ _ _ h_q_137) wd_22_7 wd_22_8 wd_22_9 wd_1_5 wd_22_10 hd6_room ⟨Nat.le_trans (by decide) hR.1, Nat.le_trans (by decide) hR.2⟩ ⟨Nat.zero_le _, Nat.zero_le _⟩ hc.i (hc.c _) rfl (Nat.le_of_ble_eq_true rfl) rfl rfl dX6_reason_105 (fun H locs Z => ?_)
            refine lv_icmp_lt (tgt := 113) hx hb dX6_reason_108 (by decide) (fun h_138 => ?_) (fun h_138 => ?_)
            · replace hT := mx_t hT h_138
              refine lv_aload_n hx hb dX6_reason_113 rfl (lv_at hl 4 rfl) ?_
              refine lv_iload_n hx hb dX6_reason_114 rfl (lv_at hl 3 rfl) ?_
              obtain ⟨q_139, h_q_139, hT⟩ := mx_bind hT
              refine mx_callV (As := [.int (q_1)]) (rest := []) (st1 := [.int (q_139)]) (C := RX6) (T := TX6) (N := 11) (ci := 6) X Z hl.1 (c6_isPassing l E hJ hc _ _ _ h_q_139) wd_22_15 wd_22_16 wd_22_17 wd_1_5 wd_22_18 hd6_isPassing ⟨Nat.le_trans (by decide) hR.1, Nat.le_trans (by decide) hR.2⟩ ⟨Nat.zero_le _, Nat.zero_le _⟩ hc.i (hc.c _) rfl (Nat.le_of_ble_eq_true rfl) rfl rfl dX6_reason_115 (fun H locs Z => ?_)
              refine lv_if_eq (tgt := 130) hx hb dX6_reason_118 (by decide) (fun h_140 => ?_) (fun h_140 => ?_)
              · replace hT := mx_t hT h_140
                refine lv_iconst (v := (0 : Int32)) hx hb dX6_reason_130 (by decide) ?_
                cases hT
                exact W.iret hx hb hr (fun t ht hW => mx_end Z t ht _) Z.2.2.2 dX6_reason_131
              · replace hT := mx_f hT h_140
                refine lv_aload_n hx hb dX6_reason_121 rfl (lv_at hl 4 rfl) ?_
                refine lv_iload hx hb dX6_reason_122 (lv_at hl 0 rfl) ?_
                obtain ⟨q_141, h_q_141, hT⟩ := mx_bind hT
                refine mx_callV (As := [.int (v_132)]) (rest := []) (st1 := [.int (q_141)]) (C := RX6) (T := TX6) (N := 11) (ci := 6) X Z hl.1 (c6_isPassing l E hJ hc _ _ _ h_q_141) wd_22_15 wd_22_16 wd_22_17 wd_1_5 wd_22_18 hd6_isPassing ⟨Nat.le_trans (by decide) hR.1, Nat.le_trans (by decide) hR.2⟩ ⟨Nat.zero_le _, Nat.zero_le _⟩ hc.i (hc.c _) rfl (Nat.le_of_ble_eq_true rfl) rfl rfl dX6_reason_124 (fun H locs Z => ?_)
                refine lv_if_eq (tgt := 132) hx hb dX6_reason_127 (by decide) (fun h_142 => ?_) (fun h_142 => ?_)
                · replace hT := mx_t hT h_142
                  refine lv_iload hx hb dX6_reason_132 (lv_at hl 0 rfl) ?_
                  refine lv_istore (lv' := [(6, .int (v_132)), (5, .int (v_132)), (4, .int ((1 : Int32))), (3, .int (q_2)), (2, .int (q_1)), (0, .ref (mad E (246))), (1, .int (x1))]) hx hb dX6_reason_134 hl (by decide) rfl (fun ls hl => ?_)
                  obtain ⟨q_143, h_q_143, hT⟩ := mx_bind hT
                  refine k6_reason_136 X hR hJ hc _ _ _ _ _ _ _ _ _ _ h_q_143 Z (lv_sub (l' := [(0, .ref (mad E (246))), (2, .int (q_1)), (3, .int (q_2)), (4, .int ((1 : Int32))), (6, .int (v_132))]) hl [5, 4, 3, 2, 0] rfl) (fun H locs ls Z hl => ?_)
                  · refine lv_aload_n hx hb dX6_reason_155 rfl (lv_at hl 0 rfl) ?_
                    refine lv_iload_n hx hb dX6_reason_156 rfl (lv_at hl 1 rfl) ?_
                    refine lv_iload hx hb dX6_reason_157 (lv_at hl 4 rfl) ?_
                    refine lv_iconst (v := (1 : Int32)) hx hb dX6_reason_159 (by decide) ?_
                    refine lv_iload_n hx hb dX6_reason_160 rfl (lv_at hl 2 rfl) ?_
                    refine lv_isub hx hb dX6_reason_161 ?_
                    obtain ⟨q_144, h_q_144, hT⟩ := mx_bind hT
                    refine mx_callV (As := [.int (q_1), .int (q_143), .int (((1 : Int32)) - q_2)]) (rest := []) (st1 := [.int (q_144)]) (C := RX6) (T := TX6) (N := 11) (ci := 6) X Z hl.1 (c6_between l E hJ hc _ _ _ _ _ h_q_144) wd_22_19 wd_22_20 wd_22_21 wd_1_5 wd_22_22 hd6_between ⟨Nat.le_trans (by decide) hR.1, Nat.le_trans (by decide) hR.2⟩ ⟨Nat.zero_le _, Nat.zero_le _⟩ hc.i (hc.c _) rfl (Nat.le_of_ble_eq_true rfl) rfl rfl dX6_reason_162 (fun H locs Z => ?_)
                    refine lv_if_le (tgt := 170) hx hb dX6_reason_165 (by decide) (fun h_145 => ?_) (fun h_145 => ?_)
                    · replace hT := mx_t hT h_145
                      refine lv_aload_n hx hb dX6_reason_170 rfl (lv_at hl 0 rfl) ?_
                      refine lv_iload hx hb dX6_reason_171 (lv_at hl 4 rfl) ?_
                      obtain ⟨q_146, h_q_146, hT⟩ := mx_bind hT
                      refine mx_callV (As := [.int (q_143)]) (rest := []) (st1 := [.int (q_146)]) (C := RX6) (T := TX6) (N := 11) (ci := 6) X Z hl.1 (c6_isEnd l E hJ hc _ _ _ h_q_146) wd_22_11 wd_22_12 wd_22_13 wd_1_5 wd_22_14 hd6_isEnd ⟨Nat.le_trans (by decide) hR.1, Nat.le_trans (by decide) hR.2⟩ ⟨Nat.zero_le _, Nat.zero_le _⟩ hc.i (hc.c _) rfl (Nat.le_of_ble_eq_true rfl) rfl rfl dX6_reason_173 (fun H locs Z => ?_)
                      refine lv_if_ne (tgt := 207) hx hb dX6_reason_176 (by decide) (fun h_147 => ?_) (fun h_147 => ?_)
                      · replace hT := mx_f hT h_147
                        refine lv_iconst (v := (0 : Int32)) hx hb dX6_reason_207 (by decide) ?_
                        refine lv_istore (lv' := [(7, .int ((0 : Int32))), (0, .ref (mad E (246))), (2, .int (q_1)), (3, .int (q_2)), (4, .int ((1 : Int32))), (6, .int (q_143))]) hx hb dX6_reason_208 hl (by decide) rfl (fun ls hl => ?_)
                        refine lv_iload hx hb dX6_reason_210 (lv_at hl 0 rfl) ?_
                        refine lv_if_eq (tgt := 219) hx hb dX6_reason_212 (by decide) (fun h_148 => ?_) (fun h_148 => ?_)
                        · replace hT := mx_t hT h_148
                          refine lv_iconst (v := (0 : Int32)) hx hb dX6_reason_219 (by decide) ?_
                          cases hT
                          exact W.iret hx hb hr (fun t ht hW => mx_end Z t ht _) Z.2.2.2 dX6_reason_220
                        · replace hT := mx_f hT h_148
                          refine lv_iconst (v := (5 : Int32)) hx hb dX6_reason_215 (by decide) ?_
                          refine lv_goto (tgt := 220) hx hb dX6_reason_216 (by decide) ?_
                          cases hT
                          exact W.iret hx hb hr (fun t ht hW => mx_end Z t ht _) Z.2.2.2 dX6_reason_220
                      · replace hT := mx_t hT h_147
                        refine lv_aload_n hx hb dX6_reason_179 rfl (lv_at hl 0 rfl) ?_
                        refine lv_iload hx hb dX6_reason_180 (lv_at hl 4 rfl) ?_
                        obtain ⟨q_149, h_q_149, hT⟩ := mx_bind hT
                        refine mx_callV (As := [.int (q_143)]) (rest := []) (st1 := [.int (q_149)]) (C := RX6) (T := TX6) (N := 11) (ci := 6) X Z hl.1 (c6_trainsIn l E hJ hc _ _ _ h_q_149) wd_22_3 wd_22_4 wd_22_5 wd_1_5 wd_22_6 hd6_trainsIn ⟨Nat.le_trans (by decide) hR.1, Nat.le_trans (by decide) hR.2⟩ ⟨Nat.zero_le _, Nat.zero_le _⟩ hc.i (hc.c _) rfl (Nat.le_of_ble_eq_true rfl) rfl rfl dX6_reason_182 (fun H locs Z => ?_)
                        refine lv_aload_n hx hb dX6_reason_185 rfl (lv_at hl 0 rfl) ?_
                        refine lv_iload_n hx hb dX6_reason_186 rfl (lv_at hl 1 rfl) ?_
                        refine lv_iload hx hb dX6_reason_187 (lv_at hl 4 rfl) ?_
                        refine lv_iload_n hx hb dX6_reason_189 rfl (lv_at hl 2 rfl) ?_
                        obtain ⟨q_150, h_q_150, hT⟩ := mx_bind hT
                        refine mx_callV (As := [.int (q_1), .int (q_143), .int (q_2)]) (rest := [.int (q_149)]) (st1 := [.int (q_150), .int (q_149)]) (C := RX6) (T := TX6) (N := 11) (ci := 6) X Z hl.1 (c6_between l E hJ hc _ _ _ _ _ h_q_150) wd_22_19 wd_22_20 wd_22_21 wd_1_5 wd_22_22 hd6_between ⟨Nat.le_trans (by decide) hR.1, Nat.le_trans (by decide) hR.2⟩ ⟨Nat.zero_le _, Nat.zero_le _⟩ hc.i (hc.c _) rfl (Nat.le_of_ble_eq_true rfl) rfl rfl dX6_reason_190 (fun H locs Z => ?_)
                        refine lv_iadd hx hb dX6_reason_193 ?_
                        refine lv_aload_n hx hb dX6_reason_194 rfl (lv_at hl 0 rfl) ?_
                        refine lv_iload hx hb dX6_reason_195 (lv_at hl 4 rfl) ?_
                        obtain ⟨q_151, h_q_151, hT⟩ := mx_bind hT
                        refine mx_callV (As := [.int (q_143)]) (rest := [.int (q_149 + q_150)]) (st1 := [.int (q_151), .int (q_149 + q_150)]) (C := RX6) (T := TX6) (N := 11) (ci := 6) X Z hl.1 (c6_room l E hJ hc _ _ _ h_q_151) wd_22_7 wd_22_8 wd_22_9 wd_1_5 wd_22_10 hd6_room ⟨Nat.le_trans (by decide) hR.1, Nat.le_trans (by decide) hR.2⟩ ⟨Nat.zero_le _, Nat.zero_le _⟩ hc.i (hc.c _) rfl (Nat.le_of_ble_eq_true rfl) rfl rfl dX6_reason_197 (fun H locs Z => ?_)
                        refine lv_icmp_lt (tgt := 207) hx hb dX6_reason_200 (by decide) (fun h_152 => ?_) (fun h_152 => ?_)
                        · replace hT := mx_t hT h_152
                          refine lv_iconst (v := (0 : Int32)) hx hb dX6_reason_207 (by decide) ?_
                          refine lv_istore (lv' := [(7, .int ((0 : Int32))), (0, .ref (mad E (246))), (2, .int (q_1)), (3, .int (q_2)), (4, .int ((1 : Int32))), (6, .int (q_143))]) hx hb dX6_reason_208 hl (by decide) rfl (fun ls hl => ?_)
                          refine lv_iload hx hb dX6_reason_210 (lv_at hl 0 rfl) ?_
                          refine lv_if_eq (tgt := 219) hx hb dX6_reason_212 (by decide) (fun h_153 => ?_) (fun h_153 => ?_)
                          · replace hT := mx_t hT h_153
                            refine lv_iconst (v := (0 : Int32)) hx hb dX6_reason_219 (by decide) ?_
                            cases hT
                            exact W.iret hx hb hr (fun t ht hW => mx_end Z t ht _) Z.2.2.2 dX6_reason_220
                          · replace hT := mx_f hT h_153
                            refine lv_iconst (v := (5 : Int32)) hx hb dX6_reason_215 (by decide) ?_
                            refine lv_goto (tgt := 220) hx hb dX6_reason_216 (by decide) ?_
                            cases hT
                            exact W.iret hx hb hr (fun t ht hW => mx_end Z t ht _) Z.2.2.2 dX6_reason_220
                        · replace hT := mx_f hT h_152
                          refine lv_iconst (v := (1 : Int32)) hx hb dX6_reason_203 (by decide) ?_
                          refine lv_goto (tgt := 208) hx hb dX6_reason_204 (by decide) ?_
                          refine lv_istore (lv' := [(7, .int ((1 : Int32))), (0, .ref (mad E (246))), (2, .int (q_1)), (3, .int (q_2)), (4, .int ((1 : Int32))), (6, .int (q_143))]) hx hb dX6_reason_208 hl (by decide) rfl (fun ls hl => ?_)
                          refine lv_iload hx hb dX6_reason_210 (lv_at hl 0 rfl) ?_
                          refine lv_if_eq (tgt := 219) hx hb dX6_reason_212 (by decide) (fun h_154 => ?_) (fun h_154 => ?_)
                          · replace hT := mx_t hT h_154
                            refine lv_iconst (v := (0 : Int32)) hx hb dX6_reason_219 (by decide) ?_
                            cases hT
                            exact W.iret hx hb hr (fun t ht hW => mx_end Z t ht _) Z.2.2.2 dX6_reason_220
                          · replace hT := mx_f hT h_154
                            refine lv_iconst (v := (5 : Int32)) hx hb dX6_reason_215 (by decide) ?_
                            refine lv_goto (tgt := 220) hx hb dX6_reason_216 (by decide) ?_
                            cases hT
                            exact W.iret hx hb hr (fun t ht hW => mx_end Z t ht _) Z.2.2.2 dX6_reason_220
                    · replace hT := mx_f hT h_145
                      refine lv_iconst (v := (4 : Int32)) hx hb dX6_reason_168 (by decide) ?_
                      cases hT
                      exact W.iret hx hb hr (fun t ht hW => mx_end Z t ht _) Z.2.2.2 dX6_reason_169
                · replace hT := mx_f hT h_142
                  refine lv_iconst (v := (0 : Int32)) hx hb dX6_reason_130 (by decide) ?_
                  cases hT
                  exact W.iret hx hb hr (fun t ht hW => mx_end Z t ht _) Z.2.2.2 dX6_reason_131
            · replace hT := mx_f hT h_138
              refine lv_iconst (v := (3 : Int32)) hx hb dX6_reason_111 (by decide) ?_
              cases hT
              exact W.iret hx hb hr (fun t ht hW => mx_end Z t ht _) Z.2.2.2 dX6_reason_112
          · replace hT := mx_f hT h_135
            refine lv_iconst (v := (2 : Int32)) hx hb dX6_reason_94 (by decide) ?_
            cases hT
            exact W.iret hx hb hr (fun t ht hW => mx_end Z t ht _) Z.2.2.2 dX6_reason_95
      · replace hT := mx_t hT h_107
        refine lv_iload_n hx hb dX6_reason_38 rfl (lv_at hl 1 rfl) ?_
        refine lv_if_ne (tgt := 61) hx hb dX6_reason_39 (by decide) (fun h_155 => ?_) (fun h_155 => ?_)
        · replace hT := mx_f hT h_155
          refine lv_iload_n hx hb dX6_reason_61 rfl (lv_at hl 0 rfl) ?_
          refine lv_iconst (v := (1 : Int32)) hx hb dX6_reason_62 (by decide) ?_
          refine lv_icmp_ne (tgt := 70) hx hb dX6_reason_63 (by decide) (fun h_156 => ?_) (fun h_156 => ?_)
          · replace hT := mx_f hT h_156
            refine lv_iconst (v := (-1 : Int32)) hx hb dX6_reason_70 (by decide) ?_
            refine lv_istore (lv' := [(4, .int ((-1 : Int32))), (3, .int (q_2)), (2, .int (q_1)), (0, .ref (mad E (246))), (1, .int (x1))]) hx hb dX6_reason_71 hl (by decide) rfl (fun ls hl => ?_)
            refine lv_iload_n hx hb dX6_reason_73 rfl (lv_at hl 2 rfl) ?_
            refine lv_iload hx hb dX6_reason_74 (lv_at hl 0 rfl) ?_
            refine lv_iadd hx hb dX6_reason_76 ?_
            obtain ⟨v_157, e_v_157, hT⟩ := mx_nm hT
            refine mx_tops (congrArg (fun z => (.int (z) :: [] : List Value)) e_v_157) ?_
            refine lv_istore (lv' := [(5, .int (v_157)), (4, .int ((-1 : Int32))), (3, .int (q_2)), (2, .int (q_1)), (0, .ref (mad E (246))), (1, .int (x1))]) hx hb dX6_reason_77 hl (by decide) rfl (fun ls hl => ?_)
            refine lv_aload_n hx hb dX6_reason_79 rfl (lv_at hl 4 rfl) ?_
            refine lv_iload hx hb dX6_reason_80 (lv_at hl 0 rfl) ?_
            refine lv_iconst (v := (2 : Int32)) hx hb dX6_reason_82 (by decide) ?_
            obtain ⟨q_158, h_q_158, hT⟩ := mx_bind hT
            refine mx_callV (As := [.int (v_157), .int ((2 : Int32))]) (rest := []) (st1 := [.int (q_158)]) (C := RX6) (T := TX6) (N := 11) (ci := 6) X Z hl.1 (c6_seg l E hJ hc _ _ _ _ h_q_158) wd_21_23 wd_22_0 wd_22_1 wd_1_5 wd_22_2 hd6_seg ⟨Nat.le_trans (by decide) hR.1, Nat.le_trans (by decide) hR.2⟩ ⟨Nat.zero_le _, Nat.zero_le _⟩ hc.i (hc.c _) rfl (Nat.le_of_ble_eq_true rfl) rfl rfl dX6_reason_83 (fun H locs Z => ?_)
            refine lv_aload_n hx hb dX6_reason_86 rfl (lv_at hl 4 rfl) ?_
            refine lv_iconst (v := (0 : Int32)) hx hb dX6_reason_87 (by decide) ?_
            obtain ⟨q_159, h_q_159, hT⟩ := mx_bind hT
            refine mx_callV (As := [.int ((0 : Int32))]) (rest := [.int (q_158)]) (st1 := [.int (q_159), .int (q_158)]) (C := RX6) (T := TX6) (N := 11) (ci := 6) X Z hl.1 (c6_other l E hJ hc _ _ _ h_q_159) wd_14_8 wd_14_9 wd_14_10 wd_1_5 wd_14_11 hd6_other ⟨Nat.le_trans (by decide) hR.1, Nat.le_trans (by decide) hR.2⟩ ⟨Nat.zero_le _, Nat.zero_le _⟩ hc.i (hc.c _) rfl (Nat.le_of_ble_eq_true rfl) rfl rfl dX6_reason_88 (fun H locs Z => ?_)
            refine lv_icmp_le (tgt := 96) hx hb dX6_reason_91 (by decide) (fun h_160 => ?_) (fun h_160 => ?_)
            · replace hT := mx_t hT h_160
              refine lv_aload_n hx hb dX6_reason_96 rfl (lv_at hl 4 rfl) ?_
              refine lv_iload hx hb dX6_reason_97 (lv_at hl 0 rfl) ?_
              obtain ⟨q_161, h_q_161, hT⟩ := mx_bind hT
              refine mx_callV (As := [.int (v_157)]) (rest := []) (st1 := [.int (q_161)]) (C := RX6) (T := TX6) (N := 11) (ci := 6) X Z hl.1 (c6_trainsIn l E hJ hc _ _ _ h_q_161) wd_22_3 wd_22_4 wd_22_5 wd_1_5 wd_22_6 hd6_trainsIn ⟨Nat.le_trans (by decide) hR.1, Nat.le_trans (by decide) hR.2⟩ ⟨Nat.zero_le _, Nat.zero_le _⟩ hc.i (hc.c _) rfl (Nat.le_of_ble_eq_true rfl) rfl rfl dX6_reason_99 (fun H locs Z => ?_)
              refine lv_aload_n hx hb dX6_reason_102 rfl (lv_at hl 4 rfl) ?_
              refine lv_iload hx hb dX6_reason_103 (lv_at hl 0 rfl) ?_
              obtain ⟨q_162, h_q_162, hT⟩ := mx_bind hT
              refine mx_callV (As := [.int (v_157)]) (rest := [.int (q_161)]) (st1 := [.int (q_162), .int (q_161)]) (C := RX6) (T := TX6) (N := 11) (ci := 6) X Z hl.1 (c6_room l E hJ hc _ _ _ h_q_162) wd_22_7 wd_22_8 wd_22_9 wd_1_5 wd_22_10 hd6_room ⟨Nat.le_trans (by decide) hR.1, Nat.le_trans (by decide) hR.2⟩ ⟨Nat.zero_le _, Nat.zero_le _⟩ hc.i (hc.c _) rfl (Nat.le_of_ble_eq_true rfl) rfl rfl dX6_reason_105 (fun H locs Z => ?_)
              refine lv_icmp_lt (tgt := 113) hx hb dX6_reason_108 (by decide) (fun h_163 => ?_) (fun h_163 => ?_)
              · replace hT := mx_t hT h_163
                refine lv_aload_n hx hb dX6_reason_113 rfl (lv_at hl 4 rfl) ?_
                refine lv_iload_n hx hb dX6_reason_114 rfl (lv_at hl 3 rfl) ?_
                obtain ⟨q_164, h_q_164, hT⟩ := mx_bind hT
                refine mx_callV (As := [.int (q_1)]) (rest := []) (st1 := [.int (q_164)]) (C := RX6) (T := TX6) (N := 11) (ci := 6) X Z hl.1 (c6_isPassing l E hJ hc _ _ _ h_q_164) wd_22_15 wd_22_16 wd_22_17 wd_1_5 wd_22_18 hd6_isPassing ⟨Nat.le_trans (by decide) hR.1, Nat.le_trans (by decide) hR.2⟩ ⟨Nat.zero_le _, Nat.zero_le _⟩ hc.i (hc.c _) rfl (Nat.le_of_ble_eq_true rfl) rfl rfl dX6_reason_115 (fun H locs Z => ?_)
                refine lv_if_eq (tgt := 130) hx hb dX6_reason_118 (by decide) (fun h_165 => ?_) (fun h_165 => ?_)
                · replace hT := mx_t hT h_165
                  refine lv_iconst (v := (0 : Int32)) hx hb dX6_reason_130 (by decide) ?_
                  cases hT
                  exact W.iret hx hb hr (fun t ht hW => mx_end Z t ht _) Z.2.2.2 dX6_reason_131
                · replace hT := mx_f hT h_165
                  refine lv_aload_n hx hb dX6_reason_121 rfl (lv_at hl 4 rfl) ?_
                  refine lv_iload hx hb dX6_reason_122 (lv_at hl 0 rfl) ?_
                  obtain ⟨q_166, h_q_166, hT⟩ := mx_bind hT
                  refine mx_callV (As := [.int (v_157)]) (rest := []) (st1 := [.int (q_166)]) (C := RX6) (T := TX6) (N := 11) (ci := 6) X Z hl.1 (c6_isPassing l E hJ hc _ _ _ h_q_166) wd_22_15 wd_22_16 wd_22_17 wd_1_5 wd_22_18 hd6_isPassing ⟨Nat.le_trans (by decide) hR.1, Nat.le_trans (by decide) hR.2⟩ ⟨Nat.zero_le _, Nat.zero_le _⟩ hc.i (hc.c _) rfl (Nat.le_of_ble_eq_true rfl) rfl rfl dX6_reason_124 (fun H locs Z => ?_)
                  refine lv_if_eq (tgt := 132) hx hb dX6_reason_127 (by decide) (fun h_167 => ?_) (fun h_167 => ?_)
                  · replace hT := mx_t hT h_167
                    refine lv_iload hx hb dX6_reason_132 (lv_at hl 0 rfl) ?_
                    refine lv_istore (lv' := [(6, .int (v_157)), (5, .int (v_157)), (4, .int ((-1 : Int32))), (3, .int (q_2)), (2, .int (q_1)), (0, .ref (mad E (246))), (1, .int (x1))]) hx hb dX6_reason_134 hl (by decide) rfl (fun ls hl => ?_)
                    obtain ⟨q_168, h_q_168, hT⟩ := mx_bind hT
                    refine k6_reason_136 X hR hJ hc _ _ _ _ _ _ _ _ _ _ h_q_168 Z (lv_sub (l' := [(0, .ref (mad E (246))), (2, .int (q_1)), (3, .int (q_2)), (4, .int ((-1 : Int32))), (6, .int (v_157))]) hl [5, 4, 3, 2, 0] rfl) (fun H locs ls Z hl => ?_)
                    · refine lv_aload_n hx hb dX6_reason_155 rfl (lv_at hl 0 rfl) ?_
                      refine lv_iload_n hx hb dX6_reason_156 rfl (lv_at hl 1 rfl) ?_
                      refine lv_iload hx hb dX6_reason_157 (lv_at hl 4 rfl) ?_
                      refine lv_iconst (v := (1 : Int32)) hx hb dX6_reason_159 (by decide) ?_
                      refine lv_iload_n hx hb dX6_reason_160 rfl (lv_at hl 2 rfl) ?_
                      refine lv_isub hx hb dX6_reason_161 ?_
                      obtain ⟨q_169, h_q_169, hT⟩ := mx_bind hT
                      refine mx_callV (As := [.int (q_1), .int (q_168), .int (((1 : Int32)) - q_2)]) (rest := []) (st1 := [.int (q_169)]) (C := RX6) (T := TX6) (N := 11) (ci := 6) X Z hl.1 (c6_between l E hJ hc _ _ _ _ _ h_q_169) wd_22_19 wd_22_20 wd_22_21 wd_1_5 wd_22_22 hd6_between ⟨Nat.le_trans (by decide) hR.1, Nat.le_trans (by decide) hR.2⟩ ⟨Nat.zero_le _, Nat.zero_le _⟩ hc.i (hc.c _) rfl (Nat.le_of_ble_eq_true rfl) rfl rfl dX6_reason_162 (fun H locs Z => ?_)
                      refine lv_if_le (tgt := 170) hx hb dX6_reason_165 (by decide) (fun h_170 => ?_) (fun h_170 => ?_)
                      · replace hT := mx_t hT h_170
                        refine lv_aload_n hx hb dX6_reason_170 rfl (lv_at hl 0 rfl) ?_
                        refine lv_iload hx hb dX6_reason_171 (lv_at hl 4 rfl) ?_
                        obtain ⟨q_171, h_q_171, hT⟩ := mx_bind hT
                        refine mx_callV (As := [.int (q_168)]) (rest := []) (st1 := [.int (q_171)]) (C := RX6) (T := TX6) (N := 11) (ci := 6) X Z hl.1 (c6_isEnd l E hJ hc _ _ _ h_q_171) wd_22_11 wd_22_12 wd_22_13 wd_1_5 wd_22_14 hd6_isEnd ⟨Nat.le_trans (by decide) hR.1, Nat.le_trans (by decide) hR.2⟩ ⟨Nat.zero_le _, Nat.zero_le _⟩ hc.i (hc.c _) rfl (Nat.le_of_ble_eq_true rfl) rfl rfl dX6_reason_173 (fun H locs Z => ?_)
                        refine lv_if_ne (tgt := 207) hx hb dX6_reason_176 (by decide) (fun h_172 => ?_) (fun h_172 => ?_)
                        · replace hT := mx_f hT h_172
                          refine lv_iconst (v := (0 : Int32)) hx hb dX6_reason_207 (by decide) ?_
                          refine lv_istore (lv' := [(7, .int ((0 : Int32))), (0, .ref (mad E (246))), (2, .int (q_1)), (3, .int (q_2)), (4, .int ((-1 : Int32))), (6, .int (q_168))]) hx hb dX6_reason_208 hl (by decide) rfl (fun ls hl => ?_)
                          refine lv_iload hx hb dX6_reason_210 (lv_at hl 0 rfl) ?_
                          refine lv_if_eq (tgt := 219) hx hb dX6_reason_212 (by decide) (fun h_173 => ?_) (fun h_173 => ?_)
                          · replace hT := mx_t hT h_173
                            refine lv_iconst (v := (0 : Int32)) hx hb dX6_reason_219 (by decide) ?_
                            cases hT
                            exact W.iret hx hb hr (fun t ht hW => mx_end Z t ht _) Z.2.2.2 dX6_reason_220
                          · replace hT := mx_f hT h_173
                            refine lv_iconst (v := (5 : Int32)) hx hb dX6_reason_215 (by decide) ?_
                            refine lv_goto (tgt := 220) hx hb dX6_reason_216 (by decide) ?_
                            cases hT
                            exact W.iret hx hb hr (fun t ht hW => mx_end Z t ht _) Z.2.2.2 dX6_reason_220
                        · replace hT := mx_t hT h_172
                          refine lv_aload_n hx hb dX6_reason_179 rfl (lv_at hl 0 rfl) ?_
                          refine lv_iload hx hb dX6_reason_180 (lv_at hl 4 rfl) ?_
                          obtain ⟨q_174, h_q_174, hT⟩ := mx_bind hT
                          refine mx_callV (As := [.int (q_168)]) (rest := []) (st1 := [.int (q_174)]) (C := RX6) (T := TX6) (N := 11) (ci := 6) X Z hl.1 (c6_trainsIn l E hJ hc _ _ _ h_q_174) wd_22_3 wd_22_4 wd_22_5 wd_1_5 wd_22_6 hd6_trainsIn ⟨Nat.le_trans (by decide) hR.1, Nat.le_trans (by decide) hR.2⟩ ⟨Nat.zero_le _, Nat.zero_le _⟩ hc.i (hc.c _) rfl (Nat.le_of_ble_eq_true rfl) rfl rfl dX6_reason_182 (fun H locs Z => ?_)
                          refine lv_aload_n hx hb dX6_reason_185 rfl (lv_at hl 0 rfl) ?_
                          refine lv_iload_n hx hb dX6_reason_186 rfl (lv_at hl 1 rfl) ?_
                          refine lv_iload hx hb dX6_reason_187 (lv_at hl 4 rfl) ?_
                          refine lv_iload_n hx hb dX6_reason_189 rfl (lv_at hl 2 rfl) ?_
                          obtain ⟨q_175, h_q_175, hT⟩ := mx_bind hT
                          refine mx_callV (As := [.int (q_1), .int (q_168), .int (q_2)]) (rest := [.int (q_174)]) (st1 := [.int (q_175), .int (q_174)]) (C := RX6) (T := TX6) (N := 11) (ci := 6) X Z hl.1 (c6_between l E hJ hc _ _ _ _ _ h_q_175) wd_22_19 wd_22_20 wd_22_21 wd_1_5 wd_22_22 hd6_between ⟨Nat.le_trans (by decide) hR.1, Nat.le_trans (by decide) hR.2⟩ ⟨Nat.zero_le _, Nat.zero_le _⟩ hc.i (hc.c _) rfl (Nat.le_of_ble_eq_true rfl) rfl rfl dX6_reason_190 (fun H locs Z => ?_)
                          refine lv_iadd hx hb dX6_reason_193 ?_
                          refine lv_aload_n hx hb dX6_reason_194 rfl (lv_at hl 0 rfl) ?_
                          refine lv_iload hx hb dX6_reason_195 (lv_at hl 4 rfl) ?_
                          obtain ⟨q_176, h_q_176, hT⟩ := mx_bind hT
                          refine mx_callV (As := [.int (q_168)]) (rest := [.int (q_174 + q_175)]) (st1 := [.int (q_176), .int (q_174 + q_175)]) (C := RX6) (T := TX6) (N := 11) (ci := 6) X Z hl.1 (c6_room l E hJ hc _ _ _ h_q_176) wd_22_7 wd_22_8 wd_22_9 wd_1_5 wd_22_10 hd6_room ⟨Nat.le_trans (by decide) hR.1, Nat.le_trans (by decide) hR.2⟩ ⟨Nat.zero_le _, Nat.zero_le _⟩ hc.i (hc.c _) rfl (Nat.le_of_ble_eq_true rfl) rfl rfl dX6_reason_197 (fun H locs Z => ?_)
                          refine lv_icmp_lt (tgt := 207) hx hb dX6_reason_200 (by decide) (fun h_177 => ?_) (fun h_177 => ?_)
                          · replace hT := mx_t hT h_177
                            refine lv_iconst (v := (0 : Int32)) hx hb dX6_reason_207 (by decide) ?_
                            refine lv_istore (lv' := [(7, .int ((0 : Int32))), (0, .ref (mad E (246))), (2, .int (q_1)), (3, .int (q_2)), (4, .int ((-1 : Int32))), (6, .int (q_168))]) hx hb dX6_reason_208 hl (by decide) rfl (fun ls hl => ?_)
                            refine lv_iload hx hb dX6_reason_210 (lv_at hl 0 rfl) ?_
                            refine lv_if_eq (tgt := 219) hx hb dX6_reason_212 (by decide) (fun h_178 => ?_) (fun h_178 => ?_)
                            · replace hT := mx_t hT h_178
                              refine lv_iconst (v := (0 : Int32)) hx hb dX6_reason_219 (by decide) ?_
                              cases hT
                              exact W.iret hx hb hr (fun t ht hW => mx_end Z t ht _) Z.2.2.2 dX6_reason_220
                            · replace hT := mx_f hT h_178
                              refine lv_iconst (v := (5 : Int32)) hx hb dX6_reason_215 (by decide) ?_
                              refine lv_goto (tgt := 220) hx hb dX6_reason_216 (by decide) ?_
                              cases hT
                              exact W.iret hx hb hr (fun t ht hW => mx_end Z t ht _) Z.2.2.2 dX6_reason_220
                          · replace hT := mx_f hT h_177
                            refine lv_iconst (v := (1 : Int32)) hx hb dX6_reason_203 (by decide) ?_
                            refine lv_goto (tgt := 208) hx hb dX6_reason_204 (by decide) ?_
                            refine lv_istore (lv' := [(7, .int ((1 : Int32))), (0, .ref (mad E (246))), (2, .int (q_1)), (3, .int (q_2)), (4, .int ((-1 : Int32))), (6, .int (q_168))]) hx hb dX6_reason_208 hl (by decide) rfl (fun ls hl => ?_)
                            refine lv_iload hx hb dX6_reason_210 (lv_at hl 0 rfl) ?_
                            refine lv_if_eq (tgt := 219) hx hb dX6_reason_212 (by decide) (fun h_179 => ?_) (fun h_179 => ?_)
                            · replace hT := mx_t hT h_179
                              refine lv_iconst (v := (0 : Int32)) hx hb dX6_reason_219 (by decide) ?_
                              cases hT
                              exact W.iret hx hb hr (fun t ht hW => mx_end Z t ht _) Z.2.2.2 dX6_reason_220
                            · replace hT := mx_f hT h_179
                              refine lv_iconst (v := (5 : Int32)) hx hb dX6_reason_215 (by decide) ?_
                              refine lv_goto (tgt := 220) hx hb dX6_reason_216 (by decide) ?_
                              cases hT
                              exact W.iret hx hb hr (fun t ht hW => mx_end Z t ht _) Z.2.2.2 dX6_reason_220
                      · replace hT := mx_f hT h_170
                        refine lv_iconst (v := (4 : Int32)) hx hb dX6_reason_168 (by decide) ?_
                        cases hT
                        exact W.iret hx hb hr (fun t ht hW => mx_end Z t ht _) Z.2.2.2 dX6_reason_169
                  · replace hT := mx_f hT h_167
                    refine lv_iconst (v := (0 : Int32)) hx hb dX6_reason_130 (by decide) ?_
                    cases hT
                    exact W.iret hx hb hr (fun t ht hW => mx_end Z t ht _) Z.2.2.2 dX6_reason_131
              · replace hT := mx_f hT h_163
                refine lv_iconst (v := (3 : Int32)) hx hb dX6_reason_111 (by decide) ?_
                cases hT
                exact W.iret hx hb hr (fun t ht hW => mx_end Z t ht _) Z.2.2.2 dX6_reason_112
            · replace hT := mx_f hT h_160
              refine lv_iconst (v := (2 : Int32)) hx hb dX6_reason_94 (by decide) ?_
              cases hT
              exact W.iret hx hb hr (fun t ht hW => mx_end Z t ht _) Z.2.2.2 dX6_reason_95
          · replace hT := mx_t hT h_156
            refine lv_iconst (v := (1 : Int32)) hx hb dX6_reason_66 (by decide) ?_
            refine lv_goto (tgt := 71) hx hb dX6_reason_67 (by decide) ?_
            refine lv_istore (lv' := [(4, .int ((1 : Int32))), (3, .int (q_2)), (2, .int (q_1)), (0, .ref (mad E (246))), (1, .int (x1))]) hx hb dX6_reason_71 hl (by decide) rfl (fun ls hl => ?_)
            refine lv_iload_n hx hb dX6_reason_73 rfl (lv_at hl 2 rfl) ?_
            refine lv_iload hx hb dX6_reason_74 (lv_at hl 0 rfl) ?_
            refine lv_iadd hx hb dX6_reason_76 ?_
            obtain ⟨v_180, e_v_180, hT⟩ := mx_nm hT
            refine mx_tops (congrArg (fun z => (.int (z) :: [] : List Value)) e_v_180) ?_
            refine lv_istore (lv' := [(5, .int (v_180)), (4, .int ((1 : Int32))), (3, .int (q_2)), (2, .int (q_1)), (0, .ref (mad E (246))), (1, .int (x1))]) hx hb dX6_reason_77 hl (by decide) rfl (fun ls hl => ?_)
            refine lv_aload_n hx hb dX6_reason_79 rfl (lv_at hl 4 rfl) ?_
            refine lv_iload hx hb dX6_reason_80 (lv_at hl 0 rfl) ?_
            refine lv_iconst (v := (2 : Int32)) hx hb dX6_reason_82 (by decide) ?_
            obtain ⟨q_181, h_q_181, hT⟩ := mx_bind hT
            refine mx_callV (As := [.int (v_180), .int ((2 : Int32))]) (rest := []) (st1 := [.int (q_181)]) (C := RX6) (T := TX6) (N := 11) (ci := 6) X Z hl.1 (c6_seg l E hJ hc _ _ _ _ h_q_181) wd_21_23 wd_22_0 wd_22_1 wd_1_5 wd_22_2 hd6_seg ⟨Nat.le_trans (by decide) hR.1, Nat.le_trans (by decide) hR.2⟩ ⟨Nat.zero_le _, Nat.zero_le _⟩ hc.i (hc.c _) rfl (Nat.le_of_ble_eq_true rfl) rfl rfl dX6_reason_83 (fun H locs Z => ?_)
            refine lv_aload_n hx hb dX6_reason_86 rfl (lv_at hl 4 rfl) ?_
            refine lv_iconst (v := (0 : Int32)) hx hb dX6_reason_87 (by decide) ?_
            obtain ⟨q_182, h_q_182, hT⟩ := mx_bind hT
            refine mx_callV (As := [.int ((0 : Int32))]) (rest := [.int (q_181)]) (st1 := [.int (q_182), .int (q_181)]) (C := RX6) (T := TX6) (N := 11) (ci := 6) X Z hl.1 (c6_other l E hJ hc _ _ _ h_q_182) wd_14_8 wd_14_9 wd_14_10 wd_1_5 wd_14_11 hd6_other ⟨Nat.le_trans (by decide) hR.1, Nat.le_trans (by decide) hR.2⟩ ⟨Nat.zero_le _, Nat.zero_le _⟩ hc.i (hc.c _) rfl (Nat.le_of_ble_eq_true rfl) rfl rfl dX6_reason_88 (fun H locs Z => ?_)
            refine lv_icmp_le (tgt := 96) hx hb dX6_reason_91 (by decide) (fun h_183 => ?_) (fun h_183 => ?_)
            · replace hT := mx_t hT h_183
              refine lv_aload_n hx hb dX6_reason_96 rfl (lv_at hl 4 rfl) ?_
              refine lv_iload hx hb dX6_reason_97 (lv_at hl 0 rfl) ?_
              obtain ⟨q_184, h_q_184, hT⟩ := mx_bind hT
              refine mx_callV (As := [.int (v_180)]) (rest := []) (st1 := [.int (q_184)]) (C := RX6) (T := TX6) (N := 11) (ci := 6) X Z hl.1 (c6_trainsIn l E hJ hc _ _ _ h_q_184) wd_22_3 wd_22_4 wd_22_5 wd_1_5 wd_22_6 hd6_trainsIn ⟨Nat.le_trans (by decide) hR.1, Nat.le_trans (by decide) hR.2⟩ ⟨Nat.zero_le _, Nat.zero_le _⟩ hc.i (hc.c _) rfl (Nat.le_of_ble_eq_true rfl) rfl rfl dX6_reason_99 (fun H locs Z => ?_)
              refine lv_aload_n hx hb dX6_reason_102 rfl (lv_at hl 4 rfl) ?_
              refine lv_iload hx hb dX6_reason_103 (lv_at hl 0 rfl) ?_
              obtain ⟨q_185, h_q_185, hT⟩ := mx_bind hT
              refine mx_callV (As := [.int (v_180)]) (rest := [.int (q_184)]) (st1 := [.int (q_185), .int (q_184)]) (C := RX6) (T := TX6) (N := 11) (ci := 6) X Z hl.1 (c6_room l E hJ hc _ _ _ h_q_185) wd_22_7 wd_22_8 wd_22_9 wd_1_5 wd_22_10 hd6_room ⟨Nat.le_trans (by decide) hR.1, Nat.le_trans (by decide) hR.2⟩ ⟨Nat.zero_le _, Nat.zero_le _⟩ hc.i (hc.c _) rfl (Nat.le_of_ble_eq_true rfl) rfl rfl dX6_reason_105 (fun H locs Z => ?_)
              refine lv_icmp_lt (tgt := 113) hx hb dX6_reason_108 (by decide) (fun h_186 => ?_) (fun h_186 => ?_)
              · replace hT := mx_t hT h_186
                refine lv_aload_n hx hb dX6_reason_113 rfl (lv_at hl 4 rfl) ?_
                refine lv_iload_n hx hb dX6_reason_114 rfl (lv_at hl 3 rfl) ?_
                obtain ⟨q_187, h_q_187, hT⟩ := mx_bind hT
                refine mx_callV (As := [.int (q_1)]) (rest := []) (st1 := [.int (q_187)]) (C := RX6) (T := TX6) (N := 11) (ci := 6) X Z hl.1 (c6_isPassing l E hJ hc _ _ _ h_q_187) wd_22_15 wd_22_16 wd_22_17 wd_1_5 wd_22_18 hd6_isPassing ⟨Nat.le_trans (by decide) hR.1, Nat.le_trans (by decide) hR.2⟩ ⟨Nat.zero_le _, Nat.zero_le _⟩ hc.i (hc.c _) rfl (Nat.le_of_ble_eq_true rfl) rfl rfl dX6_reason_115 (fun H locs Z => ?_)
                refine lv_if_eq (tgt := 130) hx hb dX6_reason_118 (by decide) (fun h_188 => ?_) (fun h_188 => ?_)
                · replace hT := mx_t hT h_188
                  refine lv_iconst (v := (0 : Int32)) hx hb dX6_reason_130 (by decide) ?_
                  cases hT
                  exact W.iret hx hb hr (fun t ht hW => mx_end Z t ht _) Z.2.2.2 dX6_reason_131
                · replace hT := mx_f hT h_188
                  refine lv_aload_n hx hb dX6_reason_121 rfl (lv_at hl 4 rfl) ?_
                  refine lv_iload hx hb dX6_reason_122 (lv_at hl 0 rfl) ?_
                  obtain ⟨q_189, h_q_189, hT⟩ := mx_bind hT
                  refine mx_callV (As := [.int (v_180)]) (rest := []) (st1 := [.int (q_189)]) (C := RX6) (T := TX6) (N := 11) (ci := 6) X Z hl.1 (c6_isPassing l E hJ hc _ _ _ h_q_189) wd_22_15 wd_22_16 wd_22_17 wd_1_5 wd_22_18 hd6_isPassing ⟨Nat.le_trans (by decide) hR.1, Nat.le_trans (by decide) hR.2⟩ ⟨Nat.zero_le _, Nat.zero_le _⟩ hc.i (hc.c _) rfl (Nat.le_of_ble_eq_true rfl) rfl rfl dX6_reason_124 (fun H locs Z => ?_)
                  refine lv_if_eq (tgt := 132) hx hb dX6_reason_127 (by decide) (fun h_190 => ?_) (fun h_190 => ?_)
                  · replace hT := mx_t hT h_190
                    refine lv_iload hx hb dX6_reason_132 (lv_at hl 0 rfl) ?_
                    refine lv_istore (lv' := [(6, .int (v_180)), (5, .int (v_180)), (4, .int ((1 : Int32))), (3, .int (q_2)), (2, .int (q_1)), (0, .ref (mad E (246))), (1, .int (x1))]) hx hb dX6_reason_134 hl (by decide) rfl (fun ls hl => ?_)
                    obtain ⟨q_191, h_q_191, hT⟩ := mx_bind hT
                    refine k6_reason_136 X hR hJ hc _ _ _ _ _ _ _ _ _ _ h_q_191 Z (lv_sub (l' := [(0, .ref (mad E (246))), (2, .int (q_1)), (3, .int (q_2)), (4, .int ((1 : Int32))), (6, .int (v_180))]) hl [5, 4, 3, 2, 0] rfl) (fun H locs ls Z hl => ?_)
                    · refine lv_aload_n hx hb dX6_reason_155 rfl (lv_at hl 0 rfl) ?_
                      refine lv_iload_n hx hb dX6_reason_156 rfl (lv_at hl 1 rfl) ?_
                      refine lv_iload hx hb dX6_reason_157 (lv_at hl 4 rfl) ?_
                      refine lv_iconst (v := (1 : Int32)) hx hb dX6_reason_159 (by decide) ?_
                      refine lv_iload_n hx hb dX6_reason_160 rfl (lv_at hl 2 rfl) ?_
                      refine lv_isub hx hb dX6_reason_161 ?_
                      obtain ⟨q_192, h_q_192, hT⟩ := mx_bind hT
                      refine mx_callV (As := [.int (q_1), .int (q_191), .int (((1 : Int32)) - q_2)]) (rest := []) (st1 := [.int (q_192)]) (C := RX6) (T := TX6) (N := 11) (ci := 6) X Z hl.1 (c6_between l E hJ hc _ _ _ _ _ h_q_192) wd_22_19 wd_22_20 wd_22_21 wd_1_5 wd_22_22 hd6_between ⟨Nat.le_trans (by decide) hR.1, Nat.le_trans (by decide) hR.2⟩ ⟨Nat.zero_le _, Nat.zero_le _⟩ hc.i (hc.c _) rfl (Nat.le_of_ble_eq_true rfl) rfl rfl dX6_reason_162 (fun H locs Z => ?_)
                      refine lv_if_le (tgt := 170) hx hb dX6_reason_165 (by decide) (fun h_193 => ?_) (fun h_193 => ?_)
                      · replace hT := mx_t hT h_193
                        refine lv_aload_n hx hb dX6_reason_170 rfl (lv_at hl 0 rfl) ?_
                        refine lv_iload hx hb dX6_reason_171 (lv_at hl 4 rfl) ?_
                        obtain ⟨q_194, h_q_194, hT⟩ := mx_bind hT
                        refine mx_callV (As := [.int (q_191)]) (rest := []) (st1 := [.int (q_194)]) (C := RX6) (T := TX6) (N := 11) (ci := 6) X Z hl.1 (c6_isEnd l E hJ hc _ _ _ h_q_194) wd_22_11 wd_22_12 wd_22_13 wd_1_5 wd_22_14 hd6_isEnd ⟨Nat.le_trans (by decide) hR.1, Nat.le_trans (by decide) hR.2⟩ ⟨Nat.zero_le _, Nat.zero_le _⟩ hc.i (hc.c _) rfl (Nat.le_of_ble_eq_true rfl) rfl rfl dX6_reason_173 (fun H locs Z => ?_)
                        refine lv_if_ne (tgt := 207) hx hb dX6_reason_176 (by decide) (fun h_195 => ?_) (fun h_195 => ?_)
                        · replace hT := mx_f hT h_195
                          refine lv_iconst (v := (0 : Int32)) hx hb dX6_reason_207 (by decide) ?_
                          refine lv_istore (lv' := [(7, .int ((0 : Int32))), (0, .ref (mad E (246))), (2, .int (q_1)), (3, .int (q_2)), (4, .int ((1 : Int32))), (6, .int (q_191))]) hx hb dX6_reason_208 hl (by decide) rfl (fun ls hl => ?_)
                          refine lv_iload hx hb dX6_reason_210 (lv_at hl 0 rfl) ?_
                          refine lv_if_eq (tgt := 219) hx hb dX6_reason_212 (by decide) (fun h_196 => ?_) (fun h_196 => ?_)
                          · replace hT := mx_t hT h_196
                            refine lv_iconst (v := (0 : Int32)) hx hb dX6_reason_219 (by decide) ?_
                            cases hT
                            exact W.iret hx hb hr (fun t ht hW => mx_end Z t ht _) Z.2.2.2 dX6_reason_220
                          · replace hT := mx_f hT h_196
                            refine lv_iconst (v := (5 : Int32)) hx hb dX6_reason_215 (by decide) ?_
                            refine lv_goto (tgt := 220) hx hb dX6_reason_216 (by decide) ?_
                            cases hT
                            exact W.iret hx hb hr (fun t ht hW => mx_end Z t ht _) Z.2.2.2 dX6_reason_220
                        · replace hT := mx_t hT h_195
                          refine lv_aload_n hx hb dX6_reason_179 rfl (lv_at hl 0 rfl) ?_
                          refine lv_iload hx hb dX6_reason_180 (lv_at hl 4 rfl) ?_
                          obtain ⟨q_197, h_q_197, hT⟩ := mx_bind hT
                          refine mx_callV (As := [.int (q_191)]) (rest := []) (st1 := [.int (q_197)]) (C := RX6) (T := TX6) (N := 11) (ci := 6) X Z hl.1 (c6_trainsIn l E hJ hc _ _ _ h_q_197) wd_22_3 wd_22_4 wd_22_5 wd_1_5 wd_22_6 hd6_trainsIn ⟨Nat.le_trans (by decide) hR.1, Nat.le_trans (by decide) hR.2⟩ ⟨Nat.zero_le _, Nat.zero_le _⟩ hc.i (hc.c _) rfl (Nat.le_of_ble_eq_true rfl) rfl rfl dX6_reason_182 (fun H locs Z => ?_)
                          refine lv_aload_n hx hb dX6_reason_185 rfl (lv_at hl 0 rfl) ?_
                          refine lv_iload_n hx hb dX6_reason_186 rfl (lv_at hl 1 rfl) ?_
                          refine lv_iload hx hb dX6_reason_187 (lv_at hl 4 rfl) ?_
                          refine lv_iload_n hx hb dX6_reason_189 rfl (lv_at hl 2 rfl) ?_
                          obtain ⟨q_198, h_q_198, hT⟩ := mx_bind hT
                          refine mx_callV (As := [.int (q_1), .int (q_191), .int (q_2)]) (rest := [.int (q_197)]) (st1 := [.int (q_198), .int (q_197)]) (C := RX6) (T := TX6) (N := 11) (ci := 6) X Z hl.1 (c6_between l E hJ hc _ _ _ _ _ h_q_198) wd_22_19 wd_22_20 wd_22_21 wd_1_5 wd_22_22 hd6_between ⟨Nat.le_trans (by decide) hR.1, Nat.le_trans (by decide) hR.2⟩ ⟨Nat.zero_le _, Nat.zero_le _⟩ hc.i (hc.c _) rfl (Nat.le_of_ble_eq_true rfl) rfl rfl dX6_reason_190 (fun H locs Z => ?_)
                          refine lv_iadd hx hb dX6_reason_193 ?_
                          refine lv_aload_n hx hb dX6_reason_194 rfl (lv_at hl 0 rfl) ?_
                          refine lv_iload hx hb dX6_reason_195 (lv_at hl 4 rfl) ?_
                          obtain ⟨q_199, h_q_199, hT⟩ := mx_bind hT
                          refine mx_callV (As := [.int (q_191)]) (rest := [.int (q_197 + q_198)]) (st1 := [.int (q_199), .int (q_197 + q_198)]) (C := RX6) (T := TX6) (N := 11) (ci := 6) X Z hl.1 (c6_room l E hJ hc _ _ _ h_q_199) wd_22_7 wd_22_8 wd_22_9 wd_1_5 wd_22_10 hd6_room ⟨Nat.le_trans (by decide) hR.1, Nat.le_trans (by decide) hR.2⟩ ⟨Nat.zero_le _, Nat.zero_le _⟩ hc.i (hc.c _) rfl (Nat.le_of_ble_eq_true rfl) rfl rfl dX6_reason_197 (fun H locs Z => ?_)
                          refine lv_icmp_lt (tgt := 207) hx hb dX6_reason_200 (by decide) (fun h_200 => ?_) (fun h_200 => ?_)
                          · replace hT := mx_t hT h_200
                            refine lv_iconst (v := (0 : Int32)) hx hb dX6_reason_207 (by decide) ?_
                            refine lv_istore (lv' := [(7, .int ((0 : Int32))), (0, .ref (mad E (246))), (2, .int (q_1)), (3, .int (q_2)), (4, .int ((1 : Int32))), (6, .int (q_191))]) hx hb dX6_reason_208 hl (by decide) rfl (fun ls hl => ?_)
                            refine lv_iload hx hb dX6_reason_210 (lv_at hl 0 rfl) ?_
                            refine lv_if_eq (tgt := 219) hx hb dX6_reason_212 (by decide) (fun h_201 => ?_) (fun h_201 => ?_)
                            · replace hT := mx_t hT h_201
                              refine lv_iconst (v := (0 : Int32)) hx hb dX6_reason_219 (by decide) ?_
                              cases hT
                              exact W.iret hx hb hr (fun t ht hW => mx_end Z t ht _) Z.2.2.2 dX6_reason_220
                            · replace hT := mx_f hT h_201
                              refine lv_iconst (v := (5 : Int32)) hx hb dX6_reason_215 (by decide) ?_
                              refine lv_goto (tgt := 220) hx hb dX6_reason_216 (by decide) ?_
                              cases hT
                              exact W.iret hx hb hr (fun t ht hW => mx_end Z t ht _) Z.2.2.2 dX6_reason_220
                          · replace hT := mx_f hT h_200
                            refine lv_iconst (v := (1 : Int32)) hx hb dX6_reason_203 (by decide) ?_
                            refine lv_goto (tgt := 208) hx hb dX6_reason_204 (by decide) ?_
                            refine lv_istore (lv' := [(7, .int ((1 : Int32))), (0, .ref (mad E (246))), (2, .int (q_1)), (3, .int (q_2)), (4, .int ((1 : Int32))), (6, .int (q_191))]) hx hb dX6_reason_208 hl (by decide) rfl (fun ls hl => ?_)
                            refine lv_iload hx hb dX6_reason_210 (lv_at hl 0 rfl) ?_
                            refine lv_if_eq (tgt := 219) hx hb dX6_reason_212 (by decide) (fun h_202 => ?_) (fun h_202 => ?_)
                            · replace hT := mx_t hT h_202
                              refine lv_iconst (v := (0 : Int32)) hx hb dX6_reason_219 (by decide) ?_
                              cases hT
                              exact W.iret hx hb hr (fun t ht hW => mx_end Z t ht _) Z.2.2.2 dX6_reason_220
                            · replace hT := mx_f hT h_202
                              refine lv_iconst (v := (5 : Int32)) hx hb dX6_reason_215 (by decide) ?_
                              refine lv_goto (tgt := 220) hx hb dX6_reason_216 (by decide) ?_
                              cases hT
                              exact W.iret hx hb hr (fun t ht hW => mx_end Z t ht _) Z.2.2.2 dX6_reason_220
                      · replace hT := mx_f hT h_193
                        refine lv_iconst (v := (4 : Int32)) hx hb dX6_reason_168 (by decide) ?_
                        cases hT
                        exact W.iret hx hb hr (fun t ht hW => mx_end Z t ht _) Z.2.2.2 dX6_reason_169
                  · replace hT := mx_f hT h_190
                    refine lv_iconst (v := (0 : Int32)) hx hb dX6_reason_130 (by decide) ?_
                    cases hT
                    exact W.iret hx hb hr (fun t ht hW => mx_end Z t ht _) Z.2.2.2 dX6_reason_131
              · replace hT := mx_f hT h_186
                refine lv_iconst (v := (3 : Int32)) hx hb dX6_reason_111 (by decide) ?_
                cases hT
                exact W.iret hx hb hr (fun t ht hW => mx_end Z t ht _) Z.2.2.2 dX6_reason_112
            · replace hT := mx_f hT h_183
              refine lv_iconst (v := (2 : Int32)) hx hb dX6_reason_94 (by decide) ?_
              cases hT
              exact W.iret hx hb hr (fun t ht hW => mx_end Z t ht _) Z.2.2.2 dX6_reason_95
        · replace hT := mx_t hT h_155
          refine lv_aload_n hx hb dX6_reason_42 rfl (lv_at hl 2 rfl) ?_
          refine lv_iconst (v := (4 : Int32)) hx hb dX6_reason_43 (by decide) ?_
          obtain ⟨q_203, h_q_203, hT⟩ := mx_bind hT
          refine mx_callV (As := [.int ((4 : Int32))]) (rest := []) (st1 := [.int (q_203)]) (C := RX6) (T := TX6) (N := 11) (ci := 6) X Z hl.1 (c6_other l E hJ hc _ _ _ h_q_203) wd_14_8 wd_14_9 wd_14_10 wd_1_5 wd_14_11 hd6_other ⟨Nat.le_trans (by decide) hR.1, Nat.le_trans (by decide) hR.2⟩ ⟨Nat.zero_le _, Nat.zero_le _⟩ hc.i (hc.c _) rfl (Nat.le_of_ble_eq_true rfl) rfl rfl dX6_reason_44 (fun H locs Z => ?_)
          refine lv_aload_n hx hb dX6_reason_47 rfl (lv_at hl 2 rfl) ?_
          refine lv_iload_n hx hb dX6_reason_48 rfl (lv_at hl 3 rfl) ?_
          obtain ⟨q_204, h_q_204, hT⟩ := mx_bind hT
          refine mx_callV (As := [.int (x1)]) (rest := [.int (q_203)]) (st1 := [.int (q_204), .int (q_203)]) (C := RX6) (T := TX6) (N := 11) (ci := 6) X Z hl.1 (c6_wanted l E hJ hc _ _ _ h_q_204) wd_21_19 wd_21_20 wd_21_21 wd_1_5 wd_21_22 hd6_wanted ⟨Nat.le_trans (by decide) hR.1, Nat.le_trans (by decide) hR.2⟩ ⟨Nat.zero_le _, Nat.zero_le _⟩ hc.i (hc.c _) rfl (Nat.le_of_ble_eq_true rfl) rfl rfl dX6_reason_49 (fun H locs Z => ?_)
          refine lv_icmp_ge (tgt := 59) hx hb dX6_reason_52 (by decide) (fun h_205 => ?_) (fun h_205 => ?_)
          · replace hT := mx_t hT h_205
            refine lv_iconst (v := (0 : Int32)) hx hb dX6_reason_59 (by decide) ?_
            cases hT
            exact W.iret hx hb hr (fun t ht hW => mx_end Z t ht _) Z.2.2.2 dX6_reason_60
          · replace hT := mx_f hT h_205
            refine lv_iconst (v := (1 : Int32)) hx hb dX6_reason_55 (by decide) ?_
            refine lv_goto (tgt := 60) hx hb dX6_reason_56 (by decide) ?_
            cases hT
            exact W.iret hx hb hr (fun t ht hW => mx_end Z t ht _) Z.2.2.2 dX6_reason_60
    · replace hT := mx_t hT h_106
      refine lv_iconst (v := (0 : Int32)) hx hb dX6_reason_32 (by decide) ?_
      cases hT
      exact W.iret hx hb hr (fun t ht hW => mx_end Z t ht _) Z.2.2.2 dX6_reason_33
