/-! PeatRailwayModel.go -/
def x6_go (x1 : Int32) (G : mM) : Option mM :=
  (x6_of x1 ((3 : Int32)) G).bind fun q_1 =>
  (x6_of x1 ((4 : Int32)) G).bind fun q_2 =>
  if q_2 = ((1 : Int32)) then
    if ((1 : Int32)) = 0 then
      if ((1 : Int32)) = 0 then
        if q_1 = 0 then
          (x6_wanted x1 G).bind fun q_89 =>
          mNm (up2 G 247 79 ((G 247 79) - q_89)) fun G_90 =>
          (x6_wanted x1 G_90).bind fun q_91 =>
          (x6_put x1 ((2 : Int32)) q_91 G_90).bind fun q_92 =>
          (x6_put x1 ((4 : Int32)) ((1 : Int32)) q_92).bind fun q_93 =>
          (x6_of x1 ((0 : Int32)) q_93).bind fun q_94 =>
          (x6_put x1 ((5 : Int32)) q_94 q_93).bind fun q_95 =>
          some (q_95)
        else
          if ((1 : Int32)) = 0 then
            mNm (q_1 - ((1 : Int32))) fun v_81 =>
            (x6_put x1 ((3 : Int32)) v_81 G).bind fun q_82 =>
            (x6_seg v_81 ((2 : Int32)) q_82).bind fun q_83 =>
            (x6_put x1 ((5 : Int32)) (((1 : Int32)) + (q_83 / ((100 : Int32)))) q_82).bind fun q_84 =>
            some (q_84)
          else
            mNm (q_1 + ((1 : Int32))) fun v_85 =>
            (x6_put x1 ((3 : Int32)) v_85 G).bind fun q_86 =>
            (x6_seg v_85 ((2 : Int32)) q_86).bind fun q_87 =>
            (x6_put x1 ((5 : Int32)) (((1 : Int32)) + (q_87 / ((100 : Int32)))) q_86).bind fun q_88 =>
            some (q_88)
      else
        if ((1 : Int32)) = 0 then
          mNm (q_1 - ((1 : Int32))) fun v_71 =>
          (x6_put x1 ((3 : Int32)) v_71 G).bind fun q_72 =>
          (x6_seg v_71 ((2 : Int32)) q_72).bind fun q_73 =>
          (x6_put x1 ((5 : Int32)) (((1 : Int32)) + (q_73 / ((100 : Int32)))) q_72).bind fun q_74 =>
          some (q_74)
        else
          mNm (q_1 + ((1 : Int32))) fun v_75 =>
          (x6_put x1 ((3 : Int32)) v_75 G).bind fun q_76 =>
          (x6_seg v_75 ((2 : Int32)) q_76).bind fun q_77 =>
          (x6_put x1 ((5 : Int32)) (((1 : Int32)) + (q_77 / ((100 : Int32)))) q_76).bind fun q_78 =>
          some (q_78)
    else
      if q_1 = ((G 247 72) - ((1 : Int32))) then
        (x6_of x1 ((2 : Int32)) G).bind fun q_124 =>
        mNm (up2 G 247 80 ((G 247 80) + q_124)) fun G_125 =>
        (x6_put x1 ((2 : Int32)) ((0 : Int32)) G_125).bind fun q_126 =>
        (x6_put x1 ((4 : Int32)) ((0 : Int32)) q_126).bind fun q_127 =>
        (x6_of x1 ((0 : Int32)) q_127).bind fun q_128 =>
        (x6_put x1 ((5 : Int32)) q_128 q_127).bind fun q_129 =>
        (x6_of x1 ((8 : Int32)) q_129).bind fun q_130 =>
        (x6_put x1 ((8 : Int32)) (q_130 + ((1 : Int32))) q_129).bind fun q_131 =>
        some (q_131)
      else
        if ((1 : Int32)) = 0 then
          if q_1 = 0 then
            (x6_wanted x1 G).bind fun q_117 =>
            mNm (up2 G 247 79 ((G 247 79) - q_117)) fun G_118 =>
            (x6_wanted x1 G_118).bind fun q_119 =>
            (x6_put x1 ((2 : Int32)) q_119 G_118).bind fun q_120 =>
            (x6_put x1 ((4 : Int32)) ((1 : Int32)) q_120).bind fun q_121 =>
            (x6_of x1 ((0 : Int32)) q_121).bind fun q_122 =>
            (x6_put x1 ((5 : Int32)) q_122 q_121).bind fun q_123 =>
            some (q_123)
          else
            if ((1 : Int32)) = 0 then
              mNm (q_1 - ((1 : Int32))) fun v_109 =>
              (x6_put x1 ((3 : Int32)) v_109 G).bind fun q_110 =>
              (x6_seg v_109 ((2 : Int32)) q_110).bind fun q_111 =>
              (x6_put x1 ((5 : Int32)) (((1 : Int32)) + (q_111 / ((100 : Int32)))) q_110).bind fun q_112 =>
              some (q_112)
            else
              mNm (q_1 + ((1 : Int32))) fun v_113 =>
              (x6_put x1 ((3 : Int32)) v_113 G).bind fun q_114 =>
              (x6_seg v_113 ((2 : Int32)) q_114).bind fun q_115 =>
              (x6_put x1 ((5 : Int32)) (((1 : Int32)) + (q_115 / ((100 : Int32)))) q_114).bind fun q_116 =>
              some (q_116)
        else
          if ((1 : Int32)) = 0 then
            mNm (q_1 - ((1 : Int32))) fun v_99 =>
            (x6_put x1 ((3 : Int32)) v_99 G).bind fun q_100 =>
            (x6_seg v_99 ((2 : Int32)) q_100).bind fun q_101 =>
            (x6_put x1 ((5 : Int32)) (((1 : Int32)) + (q_101 / ((100 : Int32)))) q_100).bind fun q_102 =>
            some (q_102)
          else
            mNm (q_1 + ((1 : Int32))) fun v_103 =>
            (x6_put x1 ((3 : Int32)) v_103 G).bind fun q_104 =>
            (x6_seg v_103 ((2 : Int32)) q_104).bind fun q_105 =>
            (x6_put x1 ((5 : Int32)) (((1 : Int32)) + (q_105 / ((100 : Int32)))) q_104).bind fun q_106 =>
            some (q_106)
  else
    if ((0 : Int32)) = 0 then
      if ((0 : Int32)) = 0 then
        if q_1 = 0 then
          (x6_wanted x1 G).bind fun q_25 =>
          mNm (up2 G 247 79 ((G 247 79) - q_25)) fun G_26 =>
          (x6_wanted x1 G_26).bind fun q_27 =>
          (x6_put x1 ((2 : Int32)) q_27 G_26).bind fun q_28 =>
          (x6_put x1 ((4 : Int32)) ((1 : Int32)) q_28).bind fun q_29 =>
          (x6_of x1 ((0 : Int32)) q_29).bind fun q_30 =>
          (x6_put x1 ((5 : Int32)) q_30 q_29).bind fun q_31 =>
          some (q_31)
        else
          if ((0 : Int32)) = 0 then
            mNm (q_1 - ((1 : Int32))) fun v_17 =>
            (x6_put x1 ((3 : Int32)) v_17 G).bind fun q_18 =>
            (x6_seg v_17 ((2 : Int32)) q_18).bind fun q_19 =>
            (x6_put x1 ((5 : Int32)) (((1 : Int32)) + (q_19 / ((100 : Int32)))) q_18).bind fun q_20 =>
            some (q_20)
          else
            mNm (q_1 + ((1 : Int32))) fun v_21 =>
            (x6_put x1 ((3 : Int32)) v_21 G).bind fun q_22 =>
            (x6_seg v_21 ((2 : Int32)) q_22).bind fun q_23 =>
            (x6_put x1 ((5 : Int32)) (((1 : Int32)) + (q_23 / ((100 : Int32)))) q_22).bind fun q_24 =>
            some (q_24)
      else
        if ((0 : Int32)) = 0 then
          mNm (q_1 - ((1 : Int32))) fun v_7 =>
          (x6_put x1 ((3 : Int32)) v_7 G).bind fun q_8 =>
          (x6_seg v_7 ((2 : Int32)) q_8).bind fun q_9 =>
          (x6_put x1 ((5 : Int32)) (((1 : Int32)) + (q_9 / ((100 : Int32)))) q_8).bind fun q_10 =>
          some (q_10)
        else
          mNm (q_1 + ((1 : Int32))) fun v_11 =>
          (x6_put x1 ((3 : Int32)) v_11 G).bind fun q_12 =>
          (x6_seg v_11 ((2 : Int32)) q_12).bind fun q_13 =>
          (x6_put x1 ((5 : Int32)) (((1 : Int32)) + (q_13 / ((100 : Int32)))) q_12).bind fun q_14 =>
          some (q_14)
    else
      if q_1 = ((G 247 72) - ((1 : Int32))) then
        (x6_of x1 ((2 : Int32)) G).bind fun q_60 =>
        mNm (up2 G 247 80 ((G 247 80) + q_60)) fun G_61 =>
        (x6_put x1 ((2 : Int32)) ((0 : Int32)) G_61).bind fun q_62 =>
        (x6_put x1 ((4 : Int32)) ((0 : Int32)) q_62).bind fun q_63 =>
        (x6_of x1 ((0 : Int32)) q_63).bind fun q_64 =>
        (x6_put x1 ((5 : Int32)) q_64 q_63).bind fun q_65 =>
        (x6_of x1 ((8 : Int32)) q_65).bind fun q_66 =>
        (x6_put x1 ((8 : Int32)) (q_66 + ((1 : Int32))) q_65).bind fun q_67 =>
        some (q_67)
      else
        if ((0 : Int32)) = 0 then
          if q_1 = 0 then
            (x6_wanted x1 G).bind fun q_53 =>
            mNm (up2 G 247 79 ((G 247 79) - q_53)) fun G_54 =>
            (x6_wanted x1 G_54).bind fun q_55 =>
            (x6_put x1 ((2 : Int32)) q_55 G_54).bind fun q_56 =>
            (x6_put x1 ((4 : Int32)) ((1 : Int32)) q_56).bind fun q_57 =>
            (x6_of x1 ((0 : Int32)) q_57).bind fun q_58 =>
            (x6_put x1 ((5 : Int32)) q_58 q_57).bind fun q_59 =>
            some (q_59)
          else
            if ((0 : Int32)) = 0 then
              mNm (q_1 - ((1 : Int32))) fun v_45 =>
              (x6_put x1 ((3 : Int32)) v_45 G).bind fun q_46 =>
              (x6_seg v_45 ((2 : Int32)) q_46).bind fun q_47 =>
              (x6_put x1 ((5 : Int32)) (((1 : Int32)) + (q_47 / ((100 : Int32)))) q_46).bind fun q_48 =>
              some (q_48)
            else
              mNm (q_1 + ((1 : Int32))) fun v_49 =>
              (x6_put x1 ((3 : Int32)) v_49 G).bind fun q_50 =>
              (x6_seg v_49 ((2 : Int32)) q_50).bind fun q_51 =>
              (x6_put x1 ((5 : Int32)) (((1 : Int32)) + (q_51 / ((100 : Int32)))) q_50).bind fun q_52 =>
              some (q_52)
        else
          if ((0 : Int32)) = 0 then
            mNm (q_1 - ((1 : Int32))) fun v_35 =>
            (x6_put x1 ((3 : Int32)) v_35 G).bind fun q_36 =>
            (x6_seg v_35 ((2 : Int32)) q_36).bind fun q_37 =>
            (x6_put x1 ((5 : Int32)) (((1 : Int32)) + (q_37 / ((100 : Int32)))) q_36).bind fun q_38 =>
            some (q_38)
          else
            mNm (q_1 + ((1 : Int32))) fun v_39 =>
            (x6_put x1 ((3 : Int32)) v_39 G).bind fun q_40 =>
            (x6_seg v_39 ((2 : Int32)) q_40).bind fun q_41 =>
            (x6_put x1 ((5 : Int32)) (((1 : Int32)) + (q_41 / ((100 : Int32)))) q_40).bind fun q_42 =>
            some (q_42)
theorem hd6_go : yX6_go.cls = RX6 ∧ yX6_go.cls ≠ "java/lang/invoke/MethodHandle" ∧ yX6_go.cls ≠ "java/lang/invoke/VarHandle" ∧ (parseMethodDescriptor yX6_go.desc).map (fun d => d.parameters.length) = some 1 := by decide +kernel
set_option maxHeartbeats 4000000 in
set_option maxRecDepth 100000 in
theorem c6_go (l : Launch) (E : mE) (hJ : mJ E) (hc : mMo E 246) (x1 : Int32) (G : mM) (q : mM) (hT : x6_go x1 G = some q) : mMet l E yX6_go cX6_go 5 none 2 43 [.ref (mad E (246)), .int (x1)] G (none) q := by
  refine Met.ofW (cc := cX6_go) (maxL := 5) (ret := none) (by decide) rfl ?_
  intro p e s m args below meth cd s₁ B hml hv
  obtain ⟨rfl, hP, hK, hS⟩ := hv
  have X := mx_entry (own := RX6) B hml hK hJ hS rfl
  have hx := X.1
  have hb := X.2.1
  have hown := X.2.2.2.1
  have hts := X.2.2.2.2.1
  have hr := B.returns
  have hlocks := B.notSynchronized
  have hR : 2 ≤ (headSpec (mWs yX6_go cX6_go 5 none) ({ frames := 2, cells := 0, slots := 0, locals := 43 })).room.frames ∧ 43 ≤ (headSpec (mWs yX6_go cX6_go 5 none) ({ frames := 2, cells := 0, slots := 0, locals := 43 })).room.locals := ⟨Nat.le_refl _, Nat.le_refl _⟩
  have Z : mZ E s.heap s.heap [] G := ⟨hP, va_S.rf⟩
  have hl := lv_entry ([.ref (mad E (246)), .int (x1)]) (n := 5) (Nat.le_of_ble_eq_true rfl)
  rw [lg_entry_eq]
  generalize (lg_sl ([.ref (mad E (246)), .int (x1)]) ++ List.replicate (5 - (lg_sl ([.ref (mad E (246)), .int (x1)])).length) Slot.unset).toArray = ls at hl ⊢
  have hl : lv_has ls 5 [(0, .ref (mad E (246))), (1, .int (x1))] := hl
  unfold x6_go at hT
  refine lv_aload_n hx hb dX6_go_0 rfl (lv_at hl 0 rfl) ?_
  refine lv_iload_n hx hb dX6_go_1 rfl (lv_at hl 1 rfl) ?_
  refine lv_iconst (v := (3 : Int32)) hx hb dX6_go_2 (by decide) ?_
  obtain ⟨q_1, h_q_1, hT⟩ := mx_bind hT
  refine mx_callV (As := [.int (x1), .int ((3 : Int32))]) (rest := []) (st1 := [.int (q_1)]) (C := RX6) (T := TX6) (N := 11) (ci := 6) X Z hl.1 (c6_of l E hJ hc _ _ _ _ h_q_1) wd_13_11 wd_13_12 wd_13_13 wd_1_5 wd_13_14 hd6_of ⟨Nat.le_trans (by decide) hR.1, Nat.le_trans (by decide) hR.2⟩ ⟨Nat.zero_le _, Nat.zero_le _⟩ hc.i (hc.c _) rfl (Nat.le_of_ble_eq_true rfl) rfl rfl dX6_go_3 (fun H locs Z => ?_)
  refine lv_istore_n (lv' := [(2, .int (q_1)), (0, .ref (mad E (246))), (1, .int (x1))]) hx hb dX6_go_6 rfl hl (by decide) rfl (fun ls hl => ?_)
  refine lv_aload_n hx hb dX6_go_7 rfl (lv_at hl 1 rfl) ?_
  refine lv_iload_n hx hb dX6_go_8 rfl (lv_at hl 2 rfl) ?_
  refine lv_iconst (v := (4 : Int32)) hx hb dX6_go_9 (by decide) ?_
  obtain ⟨q_2, h_q_2, hT⟩ := mx_bind hT
  refine mx_callV (As := [.int (x1), .int ((4 : Int32))]) (rest := []) (st1 := [.int (q_2)]) (C := RX6) (T := TX6) (N := 11) (ci := 6) X Z hl.1 (c6_of l E hJ hc _ _ _ _ h_q_2) wd_13_11 wd_13_12 wd_13_13 wd_1_5 wd_13_14 hd6_of ⟨Nat.le_trans (by decide) hR.1, Nat.le_trans (by decide) hR.2⟩ ⟨Nat.zero_le _, Nat.zero_le _⟩ hc.i (hc.c _) rfl (Nat.le_of_ble_eq_true rfl) rfl rfl dX6_go_10 (fun H locs Z => ?_)
  refine lv_iconst (v := (1 : Int32)) hx hb dX6_go_13 (by decide) ?_
  refine lv_icmp_ne (tgt := 21) hx hb dX6_go_14 (by decide) (fun h_3 => ?_) (fun h_3 => ?_)
  · replace hT := mx_f hT h_3
    refine lv_iconst (v := (0 : Int32)) hx hb dX6_go_21 (by decide) ?_
    refine lv_istore_n (lv' := [(3, .int ((0 : Int32))), (2, .int (q_1)), (0, .ref (mad E (246))), (1, .int (x1))]) hx hb dX6_go_22 rfl hl (by decide) rfl (fun ls hl => ?_)
    refine lv_iload_n hx hb dX6_go_23 rfl (lv_at hl 0 rfl) ?_
    refine lv_if_eq (tgt := 101) hx hb dX6_go_24 (by decide) (fun h_4 => ?_) (fun h_4 => ?_)
    · replace hT := mx_t hT h_4
      refine lv_iload_n hx hb dX6_go_101 rfl (lv_at hl 0 rfl) ?_
      refine lv_if_ne (tgt := 157) hx hb dX6_go_102 (by decide) (fun h_5 => ?_) (fun h_5 => ?_)
      · replace hT := mx_f hT h_5
        refine lv_iload_n hx hb dX6_go_157 rfl (lv_at hl 0 rfl) ?_
        refine lv_if_eq (tgt := 167) hx hb dX6_go_158 (by decide) (fun h_6 => ?_) (fun h_6 => ?_)
        · replace hT := mx_t hT h_6
          refine lv_iload_n hx hb dX6_go_167 rfl (lv_at hl 1 rfl) ?_
          refine lv_iconst (v := (1 : Int32)) hx hb dX6_go_168 (by decide) ?_
          refine lv_isub hx hb dX6_go_169 ?_
          obtain ⟨v_7, e_v_7, hT⟩ := mx_nm hT
          refine mx_tops (congrArg (fun z => (.int (z) :: [] : List Value)) e_v_7) ?_
          refine lv_istore (lv' := [(4, .int (v_7)), (3, .int ((0 : Int32))), (2, .int (q_1)), (0, .ref (mad E (246))), (1, .int (x1))]) hx hb dX6_go_170 hl (by decide) rfl (fun ls hl => ?_)
          refine lv_aload_n hx hb dX6_go_172 rfl (lv_at hl 3 rfl) ?_
          refine lv_iload_n hx hb dX6_go_173 rfl (lv_at hl 4 rfl) ?_
          refine lv_iconst (v := (3 : Int32)) hx hb dX6_go_174 (by decide) ?_
          refine lv_iload hx hb dX6_go_175 (lv_at hl 0 rfl) ?_
          obtain ⟨q_8, h_q_8, hT⟩ := mx_bind hT
          refine mx_callV (As := [.int (x1), .int ((3 : Int32)), .int (v_7)]) (rest := []) (st1 := []) (C := RX6) (T := TX6) (N := 11) (ci := 6) X Z hl.1 (c6_put l E hJ hc _ _ _ _ _ h_q_8) wd_15_18 wd_15_19 wd_15_20 wd_1_5 wd_15_21 hd6_put ⟨Nat.le_trans (by decide) hR.1, Nat.le_trans (by decide) hR.2⟩ ⟨Nat.zero_le _, Nat.zero_le _⟩ hc.i (hc.c _) rfl (Nat.le_of_ble_eq_true rfl) rfl rfl dX6_go_177 (fun H locs Z => ?_)
          refine lv_aload_n hx hb dX6_go_180 rfl (lv_at hl 3 rfl) ?_
          refine lv_iload_n hx hb dX6_go_181 rfl (lv_at hl 4 rfl) ?_
          refine lv_iconst (v := (5 : Int32)) hx hb dX6_go_182 (by decide) ?_
          refine lv_iconst (v := (1 : Int32)) hx hb dX6_go_183 (by decide) ?_
          refine lv_aload_n hx hb dX6_go_184 rfl (lv_at hl 3 rfl) ?_
          refine lv_iload hx hb dX6_go_185 (lv_at hl 0 rfl) ?_
          refine lv_iconst (v := (2 : Int32)) hx hb dX6_go_187 (by decide) ?_
          obtain ⟨q_9, h_q_9, hT⟩ := mx_bind hT
          refine mx_callV (As := [.int (v_7), .int ((2 : Int32))]) (rest := [.int ((1 : Int32)), .int ((5 : Int32)), .int (x1), .ref (mad E (246))]) (st1 := [.int (q_9), .int ((1 : Int32)), .int ((5 : Int32)), .int (x1), .ref (mad E (246))]) (C := RX6) (T := TX6) (N := 11) (ci := 6) X Z hl.1 (c6_seg l E hJ hc _ _ _ _ h_q_9) wd_21_23 wd_22_0 wd_22_1 wd_1_5 wd_22_2 hd6_seg ⟨Nat.le_trans (by decide) hR.1, Nat.le_trans (by decide) hR.2⟩ ⟨Nat.zero_le _, Nat.zero_le _⟩ hc.i (hc.c _) rfl (Nat.le_of_ble_eq_true rfl) rfl rfl dX6_go_188 (fun H locs Z => ?_)
          refine lv_bipush (v := (100 : Int32)) hx hb dX6_go_191 (by decide) ?_
          refine lv_idiv hx hb dX6_go_193 (by decide) ?_
          refine lv_iadd hx hb dX6_go_194 ?_
          obtain ⟨q_10, h_q_10, hT⟩ := mx_bind hT
          refine mx_callV (As := [.int (x1), .int ((5 : Int32)), .int (((1 : Int32)) + (q_9 / ((100 : Int32))))]) (rest := []) (st1 := []) (C := RX6) (T := TX6) (N := 11) (ci := 6) X Z hl.1 (c6_put l E hJ hc _ _ _ _ _ h_q_10) wd_15_18 wd_15_19 wd_15_20 wd_1_5 wd_15_21 hd6_put ⟨Nat.le_trans (by decide) hR.1, Nat.le_trans (by decide) hR.2⟩ ⟨Nat.zero_le _, Nat.zero_le _⟩ hc.i (hc.c _) rfl (Nat.le_of_ble_eq_true rfl) rfl rfl dX6_go_195 (fun H locs Z => ?_)
          cases hT
          exact W.vret hx hb hr (fun t ht hW => mx_end Z t ht _) Z.2.2.2 dX6_go_198
        · replace hT := mx_f hT h_6
          refine lv_iload_n hx hb dX6_go_161 rfl (lv_at hl 1 rfl) ?_
          refine lv_iconst (v := (1 : Int32)) hx hb dX6_go_162 (by decide) ?_
          refine lv_iadd hx hb dX6_go_163 ?_
          refine lv_goto (tgt := 170) hx hb dX6_go_164 (by decide) ?_
          obtain ⟨v_11, e_v_11, hT⟩ := mx_nm hT
          refine mx_tops (congrArg (fun z => (.int (z) :: [] : List Value)) e_v_11) ?_
          refine lv_istore (lv' := [(4, .int (v_11)), (3, .int ((0 : Int32))), (2, .int (q_1)), (0, .ref (mad E (246))), (1, .int (x1))]) hx hb dX6_go_170 hl (by decide) rfl (fun ls hl => ?_)
          refine lv_aload_n hx hb dX6_go_172 rfl (lv_at hl 3 rfl) ?_
          refine lv_iload_n hx hb dX6_go_173 rfl (lv_at hl 4 rfl) ?_
          refine lv_iconst (v := (3 : Int32)) hx hb dX6_go_174 (by decide) ?_
          refine lv_iload hx hb dX6_go_175 (lv_at hl 0 rfl) ?_
          obtain ⟨q_12, h_q_12, hT⟩ := mx_bind hT
          refine mx_callV (As := [.int (x1), .int ((3 : Int32)), .int (v_11)]) (rest := []) (st1 := []) (C := RX6) (T := TX6) (N := 11) (ci := 6) X Z hl.1 (c6_put l E hJ hc _ _ _ _ _ h_q_12) wd_15_18 wd_15_19 wd_15_20 wd_1_5 wd_15_21 hd6_put ⟨Nat.le_trans (by decide) hR.1, Nat.le_trans (by decide) hR.2⟩ ⟨Nat.zero_le _, Nat.zero_le _⟩ hc.i (hc.c _) rfl (Nat.le_of_ble_eq_true rfl) rfl rfl dX6_go_177 (fun H locs Z => ?_)
          refine lv_aload_n hx hb dX6_go_180 rfl (lv_at hl 3 rfl) ?_
          refine lv_iload_n hx hb dX6_go_181 rfl (lv_at hl 4 rfl) ?_
          refine lv_iconst (v := (5 : Int32)) hx hb dX6_go_182 (by decide) ?_
          refine lv_iconst (v := (1 : Int32)) hx hb dX6_go_183 (by decide) ?_
          refine lv_aload_n hx hb dX6_go_184 rfl (lv_at hl 3 rfl) ?_
          refine lv_iload hx hb dX6_go_185 (lv_at hl 0 rfl) ?_
          refine lv_iconst (v := (2 : Int32)) hx hb dX6_go_187 (by decide) ?_
          obtain ⟨q_13, h_q_13, hT⟩ := mx_bind hT
          refine mx_callV (As := [.int (v_11), .int ((2 : Int32))]) (rest := [.int ((1 : Int32)), .int ((5 : Int32)), .int (x1), .ref (mad E (246))]) (st1 := [.int (q_13), .int ((1 : Int32)), .int ((5 : Int32)), .int (x1), .ref (mad E (246))]) (C := RX6) (T := TX6) (N := 11) (ci := 6) X Z hl.1 (c6_seg l E hJ hc _ _ _ _ h_q_13) wd_21_23 wd_22_0 wd_22_1 wd_1_5 wd_22_2 hd6_seg ⟨Nat.le_trans (by decide) hR.1, Nat.le_trans (by decide) hR.2⟩ ⟨Nat.zero_le _, Nat.zero_le _⟩ hc.i (hc.c _) rfl (Nat.le_of_ble_eq_true rfl) rfl rfl dX6_go_188 (fun H locs Z => ?_)
          refine lv_bipush (v := (100 : Int32)) hx hb dX6_go_191 (by decide) ?_
          refine lv_idiv hx hb dX6_go_193 (by decide) ?_
          refine lv_iadd hx hb dX6_go_194 ?_
          obtain ⟨q_14, h_q_14, hT⟩ := mx_bind hT
          refine mx_callV (As := [.int (x1), .int ((5 : Int32)), .int (((1 : Int32)) + (q_13 / ((100 : Int32))))]) (rest := []) (st1 := []) (C := RX6) (T := TX6) (N := 11) (ci := 6) X Z hl.1 (c6_put l E hJ hc _ _ _ _ _ h_q_14) wd_15_18 wd_15_19 wd_15_20 wd_1_5 wd_15_21 hd6_put ⟨Nat.le_trans (by decide) hR.1, Nat.le_trans (by decide) hR.2⟩ ⟨Nat.zero_le _, Nat.zero_le _⟩ hc.i (hc.c _) rfl (Nat.le_of_ble_eq_true rfl) rfl rfl dX6_go_195 (fun H locs Z => ?_)
          cases hT
          exact W.vret hx hb hr (fun t ht hW => mx_end Z t ht _) Z.2.2.2 dX6_go_198
      · replace hT := mx_t hT h_5
        refine lv_iload_n hx hb dX6_go_105 rfl (lv_at hl 1 rfl) ?_
        refine lv_if_ne (tgt := 157) hx hb dX6_go_106 (by decide) (fun h_15 => ?_) (fun h_15 => ?_)
        · replace hT := mx_f hT h_15
          refine lv_iload_n hx hb dX6_go_157 rfl (lv_at hl 0 rfl) ?_
          refine lv_if_eq (tgt := 167) hx hb dX6_go_158 (by decide) (fun h_16 => ?_) (fun h_16 => ?_)
          · replace hT := mx_t hT h_16
            refine lv_iload_n hx hb dX6_go_167 rfl (lv_at hl 1 rfl) ?_
            refine lv_iconst (v := (1 : Int32)) hx hb dX6_go_168 (by decide) ?_
            refine lv_isub hx hb dX6_go_169 ?_
            obtain ⟨v_17, e_v_17, hT⟩ := mx_nm hT
            refine mx_tops (congrArg (fun z => (.int (z) :: [] : List Value)) e_v_17) ?_
            refine lv_istore (lv' := [(4, .int (v_17)), (3, .int ((0 : Int32))), (2, .int (q_1)), (0, .ref (mad E (246))), (1, .int (x1))]) hx hb dX6_go_170 hl (by decide) rfl (fun ls hl => ?_)
            refine lv_aload_n hx hb dX6_go_172 rfl (lv_at hl 3 rfl) ?_
            refine lv_iload_n hx hb dX6_go_173 rfl (lv_at hl 4 rfl) ?_
            refine lv_iconst (v := (3 : Int32)) hx hb dX6_go_174 (by decide) ?_
            refine lv_iload hx hb dX6_go_175 (lv_at hl 0 rfl) ?_
            obtain ⟨q_18, h_q_18, hT⟩ := mx_bind hT
            refine mx_callV (As := [.int (x1), .int ((3 : Int32)), .int (v_17)]) (rest := []) (st1 := []) (C := RX6) (T := TX6) (N := 11) (ci := 6) X Z hl.1 (c6_put l E hJ hc _ _ _ _ _ h_q_18) wd_15_18 wd_15_19 wd_15_20 wd_1_5 wd_15_21 hd6_put ⟨Nat.le_trans (by decide) hR.1, Nat.le_trans (by decide) hR.2⟩ ⟨Nat.zero_le _, Nat.zero_le _⟩ hc.i (hc.c _) rfl (Nat.le_of_ble_eq_true rfl) rfl rfl dX6_go_177 (fun H locs Z => ?_)
            refine lv_aload_n hx hb dX6_go_180 rfl (lv_at hl 3 rfl) ?_
            refine lv_iload_n hx hb dX6_go_181 rfl (lv_at hl 4 rfl) ?_
            refine lv_iconst (v := (5 : Int32)) hx hb dX6_go_182 (by decide) ?_
            refine lv_iconst (v := (1 : Int32)) hx hb dX6_go_183 (by decide) ?_
            refine lv_aload_n hx hb dX6_go_184 rfl (lv_at hl 3 rfl) ?_
            refine lv_iload hx hb dX6_go_185 (lv_at hl 0 rfl) ?_
            refine lv_iconst (v := (2 : Int32)) hx hb dX6_go_187 (by decide) ?_
            obtain ⟨q_19, h_q_19, hT⟩ := mx_bind hT
            refine mx_callV (As := [.int (v_17), .int ((2 : Int32))]) (rest := [.int ((1 : Int32)), .int ((5 : Int32)), .int (x1), .ref (mad E (246))]) (st1 := [.int (q_19), .int ((1 : Int32)), .int ((5 : Int32)), .int (x1), .ref (mad E (246))]) (C := RX6) (T := TX6) (N := 11) (ci := 6) X Z hl.1 (c6_seg l E hJ hc _ _ _ _ h_q_19) wd_21_23 wd_22_0 wd_22_1 wd_1_5 wd_22_2 hd6_seg ⟨Nat.le_trans (by decide) hR.1, Nat.le_trans (by decide) hR.2⟩ ⟨Nat.zero_le _, Nat.zero_le _⟩ hc.i (hc.c _) rfl (Nat.le_of_ble_eq_true rfl) rfl rfl dX6_go_188 (fun H locs Z => ?_)
            refine lv_bipush (v := (100 : Int32)) hx hb dX6_go_191 (by decide) ?_
            refine lv_idiv hx hb dX6_go_193 (by decide) ?_
            refine lv_iadd hx hb dX6_go_194 ?_
            obtain ⟨q_20, h_q_20, hT⟩ := mx_bind hT
            refine mx_callV (As := [.int (x1), .int ((5 : Int32)), .int (((1 : Int32)) + (q_19 / ((100 : Int32))))]) (rest := []) (st1 := []) (C := RX6) (T := TX6) (N := 11) (ci := 6) X Z hl.1 (c6_put l E hJ hc _ _ _ _ _ h_q_20) wd_15_18 wd_15_19 wd_15_20 wd_1_5 wd_15_21 hd6_put ⟨Nat.le_trans (by decide) hR.1, Nat.le_trans (by decide) hR.2⟩ ⟨Nat.zero_le _, Nat.zero_le _⟩ hc.i (hc.c _) rfl (Nat.le_of_ble_eq_true rfl) rfl rfl dX6_go_195 (fun H locs Z => ?_)
            cases hT
            exact W.vret hx hb hr (fun t ht hW => mx_end Z t ht _) Z.2.2.2 dX6_go_198
          · replace hT := mx_f hT h_16
            refine lv_iload_n hx hb dX6_go_161 rfl (lv_at hl 1 rfl) ?_
            refine lv_iconst (v := (1 : Int32)) hx hb dX6_go_162 (by decide) ?_
            refine lv_iadd hx hb dX6_go_163 ?_
            refine lv_goto (tgt := 170) hx hb dX6_go_164 (by decide) ?_
            obtain ⟨v_21, e_v_21, hT⟩ := mx_nm hT
            refine mx_tops (congrArg (fun z => (.int (z) :: [] : List Value)) e_v_21) ?_
            refine lv_istore (lv' := [(4, .int (v_21)), (3, .int ((0 : Int32))), (2, .int (q_1)), (0, .ref (mad E (246))), (1, .int (x1))]) hx hb dX6_go_170 hl (by decide) rfl (fun ls hl => ?_)
            refine lv_aload_n hx hb dX6_go_172 rfl (lv_at hl 3 rfl) ?_
            refine lv_iload_n hx hb dX6_go_173 rfl (lv_at hl 4 rfl) ?_
            refine lv_iconst (v := (3 : Int32)) hx hb dX6_go_174 (by decide) ?_
            refine lv_iload hx hb dX6_go_175 (lv_at hl 0 rfl) ?_
            obtain ⟨q_22, h_q_22, hT⟩ := mx_bind hT
            refine mx_callV (As := [.int (x1), .int ((3 : Int32)), .int (v_21)]) (rest := []) (st1 := []) (C := RX6) (T := TX6) (N := 11) (ci := 6) X Z hl.1 (c6_put l E hJ hc _ _ _ _ _ h_q_22) wd_15_18 wd_15_19 wd_15_20 wd_1_5 wd_15_21 hd6_put ⟨Nat.le_trans (by decide) hR.1, Nat.le_trans (by decide) hR.2⟩ ⟨Nat.zero_le _, Nat.zero_le _⟩ hc.i (hc.c _) rfl (Nat.le_of_ble_eq_true rfl) rfl rfl dX6_go_177 (fun H locs Z => ?_)
            refine lv_aload_n hx hb dX6_go_180 rfl (lv_at hl 3 rfl) ?_
            refine lv_iload_n hx hb dX6_go_181 rfl (lv_at hl 4 rfl) ?_
            refine lv_iconst (v := (5 : Int32)) hx hb dX6_go_182 (by decide) ?_
            refine lv_iconst (v := (1 : Int32)) hx hb dX6_go_183 (by decide) ?_
            refine lv_aload_n hx hb dX6_go_184 rfl (lv_at hl 3 rfl) ?_
            refine lv_iload hx hb dX6_go_185 (lv_at hl 0 rfl) ?_
            refine lv_iconst (v := (2 : Int32)) hx hb dX6_go_187 (by decide) ?_
            obtain ⟨q_23, h_q_23, hT⟩ := mx_bind hT
            refine mx_callV (As := [.int (v_21), .int ((2 : Int32))]) (rest := [.int ((1 : Int32)), .int ((5 : Int32)), .int (x1), .ref (mad E (246))]) (st1 := [.int (q_23), .int ((1 : Int32)), .int ((5 : Int32)), .int (x1), .ref (mad E (246))]) (C := RX6) (T := TX6) (N := 11) (ci := 6) X Z hl.1 (c6_seg l E hJ hc _ _ _ _ h_q_23) wd_21_23 wd_22_0 wd_22_1 wd_1_5 wd_22_2 hd6_seg ⟨Nat.le_trans (by decide) hR.1, Nat.le_trans (by decide) hR.2⟩ ⟨Nat.zero_le _, Nat.zero_le _⟩ hc.i (hc.c _) rfl (Nat.le_of_ble_eq_true rfl) rfl rfl dX6_go_188 (fun H locs Z => ?_)
            refine lv_bipush (v := (100 : Int32)) hx hb dX6_go_191 (by decide) ?_
            refine lv_idiv hx hb dX6_go_193 (by decide) ?_
            refine lv_iadd hx hb dX6_go_194 ?_
            obtain ⟨q_24, h_q_24, hT⟩ := mx_bind hT
            refine mx_callV (As := [.int (x1), .int ((5 : Int32)), .int (((1 : Int32)) + (q_23 / ((100 : Int32))))]) (rest := []) (st1 := []) (C := RX6) (T := TX6) (N := 11) (ci := 6) X Z hl.1 (c6_put l E hJ hc _ _ _ _ _ h_q_24) wd_15_18 wd_15_19 wd_15_20 wd_1_5 wd_15_21 hd6_put ⟨Nat.le_trans (by decide) hR.1, Nat.le_trans (by decide) hR.2⟩ ⟨Nat.zero_le _, Nat.zero_le _⟩ hc.i (hc.c _) rfl (Nat.le_of_ble_eq_true rfl) rfl rfl dX6_go_195 (fun H locs Z => ?_)
            cases hT
            exact W.vret hx hb hr (fun t ht hW => mx_end Z t ht _) Z.2.2.2 dX6_go_198
        · replace hT := mx_t hT h_15
          refine lv_aload_n hx hb dX6_go_109 rfl (lv_at hl 2 rfl) ?_
          refine mx_get (v := .ref (mad E (247))) (ci := 6) (C := RX6) (T := TX6) (N := 11) X Z hc.i (hc.c _) rfl inlX6 0 (by decide) wd_7_23 rfl dX6_go_110 ?_
          refine lv_bipush (v := (79 : Int32)) hx hb dX6_go_113 (by decide) ?_
          refine lv_dup2_11 hx hb dX6_go_115 rfl rfl ?_
          refine mx_iald X Z hc.z (mx_lit (by decide)) dX6_go_116 ?_
          refine mx_tops (s2 := [.int (G 247 79), .int ((79 : Int32)), .ref (mad E (247))]) rfl ?_
          refine lv_aload_n hx hb dX6_go_117 rfl (lv_at hl 2 rfl) ?_
          refine lv_iload_n hx hb dX6_go_118 rfl (lv_at hl 3 rfl) ?_
          obtain ⟨q_25, h_q_25, hT⟩ := mx_bind hT
          refine mx_callV (As := [.int (x1)]) (rest := [.int (G 247 79), .int ((79 : Int32)), .ref (mad E (247))]) (st1 := [.int (q_25), .int (G 247 79), .int ((79 : Int32)), .ref (mad E (247))]) (C := RX6) (T := TX6) (N := 11) (ci := 6) X Z hl.1 (c6_wanted l E hJ hc _ _ _ h_q_25) wd_21_19 wd_21_20 wd_21_21 wd_1_5 wd_21_22 hd6_wanted ⟨Nat.le_trans (by decide) hR.1, Nat.le_trans (by decide) hR.2⟩ ⟨Nat.zero_le _, Nat.zero_le _⟩ hc.i (hc.c _) rfl (Nat.le_of_ble_eq_true rfl) rfl rfl dX6_go_119 (fun H locs Z => ?_)
          refine lv_isub hx hb dX6_go_122 ?_
          obtain ⟨G_26, e_G_26, hT⟩ := mx_nm hT
          refine mx_iast X Z hc.z (mx_lit (by decide)) dX6_go_123 (fun H locs Z => ?_)
          replace Z : mZ E s.heap H locs (up2 G 247 79 ((G 247 79) - q_25)) := Z
          rw [e_G_26] at Z
          refine lv_aload_n hx hb dX6_go_124 rfl (lv_at hl 2 rfl) ?_
          refine lv_iload_n hx hb dX6_go_125 rfl (lv_at hl 3 rfl) ?_
          refine lv_iconst (v := (2 : Int32)) hx hb dX6_go_126 (by decide) ?_
          refine lv_aload_n hx hb dX6_go_127 rfl (lv_at hl 2 rfl) ?_
          refine lv_iload_n hx hb dX6_go_128 rfl (lv_at hl 3 rfl) ?_
          obtain ⟨q_27, h_q_27, hT⟩ := mx_bind hT
          refine mx_callV (As := [.int (x1)]) (rest := [.int ((2 : Int32)), .int (x1), .ref (mad E (246))]) (st1 := [.int (q_27), .int ((2 : Int32)), .int (x1), .ref (mad E (246))]) (C := RX6) (T := TX6) (N := 11) (ci := 6) X Z hl.1 (c6_wanted l E hJ hc _ _ _ h_q_27) wd_21_19 wd_21_20 wd_21_21 wd_1_5 wd_21_22 hd6_wanted ⟨Nat.le_trans (by decide) hR.1, Nat.le_trans (by decide) hR.2⟩ ⟨Nat.zero_le _, Nat.zero_le _⟩ hc.i (hc.c _) rfl (Nat.le_of_ble_eq_true rfl) rfl rfl dX6_go_129 (fun H locs Z => ?_)
          obtain ⟨q_28, h_q_28, hT⟩ := mx_bind hT
          refine mx_callV (As := [.int (x1), .int ((2 : Int32)), .int (q_27)]) (rest := []) (st1 := []) (C := RX6) (T := TX6) (N := 11) (ci := 6) X Z hl.1 (c6_put l E hJ hc _ _ _ _ _ h_q_28) wd_15_18 wd_15_19 wd_15_20 wd_1_5 wd_15_21 hd6_put ⟨Nat.le_trans (by decide) hR.1, Nat.le_trans (by decide) hR.2⟩ ⟨Nat.zero_le _, Nat.zero_le _⟩ hc.i (hc.c _) rfl (Nat.le_of_ble_eq_true rfl) rfl rfl dX6_go_132 (fun H locs Z => ?_)
          refine lv_aload_n hx hb dX6_go_135 rfl (lv_at hl 2 rfl) ?_
          refine lv_iload_n hx hb dX6_go_136 rfl (lv_at hl 3 rfl) ?_
          refine lv_iconst (v := (4 : Int32)) hx hb dX6_go_137 (by decide) ?_
          refine lv_iconst (v := (1 : Int32)) hx hb dX6_go_138 (by decide) ?_
          obtain ⟨q_29, h_q_29, hT⟩ := mx_bind hT
          refine mx_callV (As := [.int (x1), .int ((4 : Int32)), .int ((1 : Int32))]) (rest := []) (st1 := []) (C := RX6) (T := TX6) (N := 11) (ci := 6) X Z hl.1 (c6_put l E hJ hc _ _ _ _ _ h_q_29) wd_15_18 wd_15_19 wd_15_20 wd_1_5 wd_15_21 hd6_put ⟨Nat.le_trans (by decide) hR.1, Nat.le_trans (by decide) hR.2⟩ ⟨Nat.zero_le _, Nat.zero_le _⟩ hc.i (hc.c _) rfl (Nat.le_of_ble_eq_true rfl) rfl rfl dX6_go_139 (fun H locs Z => ?_)
          refine lv_aload_n hx hb dX6_go_142 rfl (lv_at hl 2 rfl) ?_
          refine lv_iload_n hx hb dX6_go_143 rfl (lv_at hl 3 rfl) ?_
          refine lv_iconst (v := (5 : Int32)) hx hb dX6_go_144 (by decide) ?_
          refine lv_aload_n hx hb dX6_go_145 rfl (lv_at hl 2 rfl) ?_
          refine lv_iload_n hx hb dX6_go_146 rfl (lv_at hl 3 rfl) ?_
          refine lv_iconst (v := (0 : Int32)) hx hb dX6_go_147 (by decide) ?_
          obtain ⟨q_30, h_q_30, hT⟩ := mx_bind hT
          refine mx_callV (As := [.int (x1), .int ((0 : Int32))]) (rest := [.int ((5 : Int32)), .int (x1), .ref (mad E (246))]) (st1 := [.int (q_30), .int ((5 : Int32)), .int (x1), .ref (mad E (246))]) (C := RX6) (T := TX6) (N := 11) (ci := 6) X Z hl.1 (c6_of l E hJ hc _ _ _ _ h_q_30) wd_13_11 wd_13_12 wd_13_13 wd_1_5 wd_13_14 hd6_of ⟨Nat.le_trans (by decide) hR.1, Nat.le_trans (by decide) hR.2⟩ ⟨Nat.zero_le _, Nat.zero_le _⟩ hc.i (hc.c _) rfl (Nat.le_of_ble_eq_true rfl) rfl rfl dX6_go_148 (fun H locs Z => ?_)
          obtain ⟨q_31, h_q_31, hT⟩ := mx_bind hT
          refine mx_callV (As := [.int (x1), .int ((5 : Int32)), .int (q_30)]) (rest := []) (st1 := []) (C := RX6) (T := TX6) (N := 11) (ci := 6) X Z hl.1 (c6_put l E hJ hc _ _ _ _ _ h_q_31) wd_15_18 wd_15_19 wd_15_20 wd_1_5 wd_15_21 hd6_put ⟨Nat.le_trans (by decide) hR.1, Nat.le_trans (by decide) hR.2⟩ ⟨Nat.zero_le _, Nat.zero_le _⟩ hc.i (hc.c _) rfl (Nat.le_of_ble_eq_true rfl) rfl rfl dX6_go_151 (fun H locs Z => ?_)
          refine lv_goto (tgt := 198) hx hb dX6_go_154 (by decide) ?_
          cases hT
          exact W.vret hx hb hr (fun t ht hW => mx_end Z t ht _) Z.2.2.2 dX6_go_198
    · replace hT := mx_f hT h_4
      refine lv_iload_n hx hb dX6_go_27 rfl (lv_at hl 1 rfl) ?_
      refine lv_aload_n hx hb dX6_go_28 rfl (lv_at hl 2 rfl) ?_
      refine mx_get (v := .ref (mad E (247))) (ci := 6) (C := RX6) (T := TX6) (N := 11) X Z hc.i (hc.c _) rfl inlX6 0 (by decide) wd_7_23 rfl dX6_go_29 ?_
      refine lv_bipush (v := (72 : Int32)) hx hb dX6_go_32 (by decide) ?_
      refine mx_iald X Z hc.z (mx_lit (by decide)) dX6_go_34 ?_
      refine mx_tops (s2 := [.int (G 247 72), .int (q_1)]) rfl ?_
      refine lv_iconst (v := (1 : Int32)) hx hb dX6_go_35 (by decide) ?_
      refine lv_isub hx hb dX6_go_36 ?_
      refine lv_icmp_ne (tgt := 101) hx hb dX6_go_37 (by decide) (fun h_32 => ?_) (fun h_32 => ?_)
      · replace hT := mx_f hT h_32
        refine lv_iload_n hx hb dX6_go_101 rfl (lv_at hl 0 rfl) ?_
        refine lv_if_ne (tgt := 157) hx hb dX6_go_102 (by decide) (fun h_33 => ?_) (fun h_33 => ?_)
        · replace hT := mx_f hT h_33
          refine lv_iload_n hx hb dX6_go_157 rfl (lv_at hl 0 rfl) ?_
          refine lv_if_eq (tgt := 167) hx hb dX6_go_158 (by decide) (fun h_34 => ?_) (fun h_34 => ?_)
          · replace hT := mx_t hT h_34
            refine lv_iload_n hx hb dX6_go_167 rfl (lv_at hl 1 rfl) ?_
            refine lv_iconst (v := (1 : Int32)) hx hb dX6_go_168 (by decide) ?_
            refine lv_isub hx hb dX6_go_169 ?_
            obtain ⟨v_35, e_v_35, hT⟩ := mx_nm hT
            refine mx_tops (congrArg (fun z => (.int (z) :: [] : List Value)) e_v_35) ?_
            refine lv_istore (lv' := [(4, .int (v_35)), (3, .int ((0 : Int32))), (2, .int (q_1)), (0, .ref (mad E (246))), (1, .int (x1))]) hx hb dX6_go_170 hl (by decide) rfl (fun ls hl => ?_)
            refine lv_aload_n hx hb dX6_go_172 rfl (lv_at hl 3 rfl) ?_
            refine lv_iload_n hx hb dX6_go_173 rfl (lv_at hl 4 rfl) ?_
            refine lv_iconst (v := (3 : Int32)) hx hb dX6_go_174 (by decide) ?_
            refine lv_iload hx hb dX6_go_175 (lv_at hl 0 rfl) ?_
            obtain ⟨q_36, h_q_36, hT⟩ := mx_bind hT
            refine mx_callV (As := [.int (x1), .int ((3 : Int32)), .int (v_35)]) (rest := []) (st1 := []) (C := RX6) (T := TX6) (N := 11) (ci := 6) X Z hl.1 (c6_put l E hJ hc _ _ _ _ _ h_q_36) wd_15_18 wd_15_19 wd_15_20 wd_1_5 wd_15_21 hd6_put ⟨Nat.le_trans (by decide) hR.1, Nat.le_trans (by decide) hR.2⟩ ⟨Nat.zero_le _, Nat.zero_le _⟩ hc.i (hc.c _) rfl (Nat.le_of_ble_eq_true rfl) rfl rfl dX6_go_177 (fun H locs Z => ?_)
            refine lv_aload_n hx hb dX6_go_180 rfl (lv_at hl 3 rfl) ?_
            refine lv_iload_n hx hb dX6_go_181 rfl (lv_at hl 4 rfl) ?_
            refine lv_iconst (v := (5 : Int32)) hx hb dX6_go_182 (by decide) ?_
            refine lv_iconst (v := (1 : Int32)) hx hb dX6_go_183 (by decide) ?_
            refine lv_aload_n hx hb dX6_go_184 rfl (lv_at hl 3 rfl) ?_
            refine lv_iload hx hb dX6_go_185 (lv_at hl 0 rfl) ?_
            refine lv_iconst (v := (2 : Int32)) hx hb dX6_go_187 (by decide) ?_
            obtain ⟨q_37, h_q_37, hT⟩ := mx_bind hT
            refine mx_callV (As := [.int (v_35), .int ((2 : Int32))]) (rest := [.int ((1 : Int32)), .int ((5 : Int32)), .int (x1), .ref (mad E (246))]) (st1 := [.int (q_37), .int ((1 : Int32)), .int ((5 : Int32)), .int (x1), .ref (mad E (246))]) (C := RX6) (T := TX6) (N := 11) (ci := 6) X Z hl.1 (c6_seg l E hJ hc _ _ _ _ h_q_37) wd_21_23 wd_22_0 wd_22_1 wd_1_5 wd_22_2 hd6_seg ⟨Nat.le_trans (by decide) hR.1, Nat.le_trans (by decide) hR.2⟩ ⟨Nat.zero_le _, Nat.zero_le _⟩ hc.i (hc.c _) rfl (Nat.le_of_ble_eq_true rfl) rfl rfl dX6_go_188 (fun H locs Z => ?_)
            refine lv_bipush (v := (100 : Int32)) hx hb dX6_go_191 (by decide) ?_
            refine lv_idiv hx hb dX6_go_193 (by decide) ?_
            refine lv_iadd hx hb dX6_go_194 ?_
            obtain ⟨q_38, h_q_38, hT⟩ := mx_bind hT
            refine mx_callV (As := [.int (x1), .int ((5 : Int32)), .int (((1 : Int32)) + (q_37 / ((100 : Int32))))]) (rest := []) (st1 := []) (C := RX6) (T := TX6) (N := 11) (ci := 6) X Z hl.1 (c6_put l E hJ hc _ _ _ _ _ h_q_38) wd_15_18 wd_15_19 wd_15_20 wd_1_5 wd_15_21 hd6_put ⟨Nat.le_trans (by decide) hR.1, Nat.le_trans (by decide) hR.2⟩ ⟨Nat.zero_le _, Nat.zero_le _⟩ hc.i (hc.c _) rfl (Nat.le_of_ble_eq_true rfl) rfl rfl dX6_go_195 (fun H locs Z => ?_)
            cases hT
            exact W.vret hx hb hr (fun t ht hW => mx_end Z t ht _) Z.2.2.2 dX6_go_198
          · replace hT := mx_f hT h_34
            refine lv_iload_n hx hb dX6_go_161 rfl (lv_at hl 1 rfl) ?_
            refine lv_iconst (v := (1 : Int32)) hx hb dX6_go_162 (by decide) ?_
            refine lv_iadd hx hb dX6_go_163 ?_
            refine lv_goto (tgt := 170) hx hb dX6_go_164 (by decide) ?_
            obtain ⟨v_39, e_v_39, hT⟩ := mx_nm hT
            refine mx_tops (congrArg (fun z => (.int (z) :: [] : List Value)) e_v_39) ?_
            refine lv_istore (lv' := [(4, .int (v_39)), (3, .int ((0 : Int32))), (2, .int (q_1)), (0, .ref (mad E (246))), (1, .int (x1))]) hx hb dX6_go_170 hl (by decide) rfl (fun ls hl => ?_)
            refine lv_aload_n hx hb dX6_go_172 rfl (lv_at hl 3 rfl) ?_
            refine lv_iload_n hx hb dX6_go_173 rfl (lv_at hl 4 rfl) ?_
            refine lv_iconst (v := (3 : Int32)) hx hb dX6_go_174 (by decide) ?_
            refine lv_iload hx hb dX6_go_175 (lv_at hl 0 rfl) ?_
            obtain ⟨q_40, h_q_40, hT⟩ := mx_bind hT
            refine mx_callV (As := [.int (x1), .int ((3 : Int32)), .int (v_39)]) (rest := []) (st1 := []) (C := RX6) (T := TX6) (N := 11) (ci := 6) X Z hl.1 (c6_put l E hJ hc _ _ _ _ _ h_q_40) wd_15_18 wd_15_19 wd_15_20 wd_1_5 wd_15_21 hd6_put ⟨Nat.le_trans (by decide) hR.1, Nat.le_trans (by decide) hR.2⟩ ⟨Nat.zero_le _, Nat.zero_le _⟩ hc.i (hc.c _) rfl (Nat.le_of_ble_eq_true rfl) rfl rfl dX6_go_177 (fun H locs Z => ?_)
            refine lv_aload_n hx hb dX6_go_180 rfl (lv_at hl 3 rfl) ?_
            refine lv_iload_n hx hb dX6_go_181 rfl (lv_at hl 4 rfl) ?_
            refine lv_iconst (v := (5 : Int32)) hx hb dX6_go_182 (by decide) ?_
            refine lv_iconst (v := (1 : Int32)) hx hb dX6_go_183 (by decide) ?_
            refine lv_aload_n hx hb dX6_go_184 rfl (lv_at hl 3 rfl) ?_
            refine lv_iload hx hb dX6_go_185 (lv_at hl 0 rfl) ?_
            refine lv_iconst (v := (2 : Int32)) hx hb dX6_go_187 (by decide) ?_
            obtain ⟨q_41, h_q_41, hT⟩ := mx_bind hT
            refine mx_callV (As := [.int (v_39), .int ((2 : Int32))]) (rest := [.int ((1 : Int32)), .int ((5 : Int32)), .int (x1), .ref (mad E (246))]) (st1 := [.int (q_41), .int ((1 : Int32)), .int ((5 : Int32)), .int (x1), .ref (mad E (246))]) (C := RX6) (T := TX6) (N := 11) (ci := 6) X Z hl.1 (c6_seg l E hJ hc _ _ _ _ h_q_41) wd_21_23 wd_22_0 wd_22_1 wd_1_5 wd_22_2 hd6_seg ⟨Nat.le_trans (by decide) hR.1, Nat.le_trans (by decide) hR.2⟩ ⟨Nat.zero_le _, Nat.zero_le _⟩ hc.i (hc.c _) rfl (Nat.le_of_ble_eq_true rfl) rfl rfl dX6_go_188 (fun H locs Z => ?_)
            refine lv_bipush (v := (100 : Int32)) hx hb dX6_go_191 (by decide) ?_
            refine lv_idiv hx hb dX6_go_193 (by decide) ?_
            refine lv_iadd hx hb dX6_go_194 ?_
            obtain ⟨q_42, h_q_42, hT⟩ := mx_bind hT
            refine mx_callV (As := [.int (x1), .int ((5 : Int32)), .int (((1 : Int32)) + (q_41 / ((100 : Int32))))]) (rest := []) (st1 := []) (C := RX6) (T := TX6) (N := 11) (ci := 6) X Z hl.1 (c6_put l E hJ hc _ _ _ _ _ h_q_42) wd_15_18 wd_15_19 wd_15_20 wd_1_5 wd_15_21 hd6_put ⟨Nat.le_trans (by decide) hR.1, Nat.le_trans (by decide) hR.2⟩ ⟨Nat.zero_le _, Nat.zero_le _⟩ hc.i (hc.c _) rfl (Nat.le_of_ble_eq_true rfl) rfl rfl dX6_go_195 (fun H locs Z => ?_)
            cases hT
            exact W.vret hx hb hr (fun t ht hW => mx_end Z t ht _) Z.2.2.2 dX6_go_198
        · replace hT := mx_t hT h_33
          refine lv_iload_n hx hb dX6_go_105 rfl (lv_at hl 1 rfl) ?_
          refine lv_if_ne (tgt := 157) hx hb dX6_go_106 (by decide) (fun h_43 => ?_) (fun h_43 => ?_)
          · replace hT := mx_f hT h_43
            refine lv_iload_n hx hb dX6_go_157 rfl (lv_at hl 0 rfl) ?_
            refine lv_if_eq (tgt := 167) hx hb dX6_go_158 (by decide) (fun h_44 => ?_) (fun h_44 => ?_)
            · replace hT := mx_t hT h_44
              refine lv_iload_n hx hb dX6_go_167 rfl (lv_at hl 1 rfl) ?_
              refine lv_iconst (v := (1 : Int32)) hx hb dX6_go_168 (by decide) ?_
              refine lv_isub hx hb dX6_go_169 ?_
              obtain ⟨v_45, e_v_45, hT⟩ := mx_nm hT
              refine mx_tops (congrArg (fun z => (.int (z) :: [] : List Value)) e_v_45) ?_
              refine lv_istore (lv' := [(4, .int (v_45)), (3, .int ((0 : Int32))), (2, .int (q_1)), (0, .ref (mad E (246))), (1, .int (x1))]) hx hb dX6_go_170 hl (by decide) rfl (fun ls hl => ?_)
              refine lv_aload_n hx hb dX6_go_172 rfl (lv_at hl 3 rfl) ?_
              refine lv_iload_n hx hb dX6_go_173 rfl (lv_at hl 4 rfl) ?_
              refine lv_iconst (v := (3 : Int32)) hx hb dX6_go_174 (by decide) ?_
              refine lv_iload hx hb dX6_go_175 (lv_at hl 0 rfl) ?_
              obtain ⟨q_46, h_q_46, hT⟩ := mx_bind hT
              refine mx_callV (As := [.int (x1), .int ((3 : Int32)), .int (v_45)]) (rest := []) (st1 := []) (C := RX6) (T := TX6) (N := 11) (ci := 6) X Z hl.1 (c6_put l E hJ hc _ _ _ _ _ h_q_46) wd_15_18 wd_15_19 wd_15_20 wd_1_5 wd_15_21 hd6_put ⟨Nat.le_trans (by decide) hR.1, Nat.le_trans (by decide) hR.2⟩ ⟨Nat.zero_le _, Nat.zero_le _⟩ hc.i (hc.c _) rfl (Nat.le_of_ble_eq_true rfl) rfl rfl dX6_go_177 (fun H locs Z => ?_)
              refine lv_aload_n hx hb dX6_go_180 rfl (lv_at hl 3 rfl) ?_
              refine lv_iload_n hx hb dX6_go_181 rfl (lv_at hl 4 rfl) ?_
              refine lv_iconst (v := (5 : Int32)) hx hb dX6_go_182 (by decide) ?_
              refine lv_iconst (v := (1 : Int32)) hx hb dX6_go_183 (by decide) ?_
              refine lv_aload_n hx hb dX6_go_184 rfl (lv_at hl 3 rfl) ?_
              refine lv_iload hx hb dX6_go_185 (lv_at hl 0 rfl) ?_
              refine lv_iconst (v := (2 : Int32)) hx hb dX6_go_187 (by decide) ?_
              obtain ⟨q_47, h_q_47, hT⟩ := mx_bind hT
              refine mx_callV (As := [.int (v_45), .int ((2 : Int32))]) (rest := [.int ((1 : Int32)), .int ((5 : Int32)), .int (x1), .ref (mad E (246))]) (st1 := [.int (q_47), .int ((1 : Int32)), .int ((5 : Int32)), .int (x1), .ref (mad E (246))]) (C := RX6) (T := TX6) (N := 11) (ci := 6) X Z hl.1 (c6_seg l E hJ hc _ _ _ _ h_q_47) wd_21_23 wd_22_0 wd_22_1 wd_1_5 wd_22_2 hd6_seg ⟨Nat.le_trans (by decide) hR.1, Nat.le_trans (by decide) hR.2⟩ ⟨Nat.zero_le _, Nat.zero_le _⟩ hc.i (hc.c _) rfl (Nat.le_of_ble_eq_true rfl) rfl rfl dX6_go_188 (fun H locs Z => ?_)
              refine lv_bipush (v := (100 : Int32)) hx hb dX6_go_191 (by decide) ?_
              refine lv_idiv hx hb dX6_go_193 (by decide) ?_
              refine lv_iadd hx hb dX6_go_194 ?_
              obtain ⟨q_48, h_q_48, hT⟩ := mx_bind hT
              refine mx_callV (As := [.int (x1), .int ((5 : Int32)), .int (((1 : Int32)) + (q_47 / ((100 : Int32))))]) (rest := []) (st1 := []) (C := RX6) (T := TX6) (N := 11) (ci := 6) X Z hl.1 (c6_put l E hJ hc _ _ _ _ _ h_q_48) wd_15_18 wd_15_19 wd_15_20 wd_1_5 wd_15_21 hd6_put ⟨Nat.le_trans (by decide) hR.1, Nat.le_trans (by decide) hR.2⟩ ⟨Nat.zero_le _, Nat.zero_le _⟩ hc.i (hc.c _) rfl (Nat.le_of_ble_eq_true rfl) rfl rfl dX6_go_195 (fun H locs Z => ?_)
              cases hT
              exact W.vret hx hb hr (fun t ht hW => mx_end Z t ht _) Z.2.2.2 dX6_go_198
            · replace hT := mx_f hT h_44
              refine lv_iload_n hx hb dX6_go_161 rfl (lv_at hl 1 rfl) ?_
              refine lv_iconst (v := (1 : Int32)) hx hb dX6_go_162 (by decide) ?_
              refine lv_iadd hx hb dX6_go_163 ?_
              refine lv_goto (tgt := 170) hx hb dX6_go_164 (by decide) ?_
              obtain ⟨v_49, e_v_49, hT⟩ := mx_nm hT
              refine mx_tops (congrArg (fun z => (.int (z) :: [] : List Value)) e_v_49) ?_
              refine lv_istore (lv' := [(4, .int (v_49)), (3, .int ((0 : Int32))), (2, .int (q_1)), (0, .ref (mad E (246))), (1, .int (x1))]) hx hb dX6_go_170 hl (by decide) rfl (fun ls hl => ?_)
              refine lv_aload_n hx hb dX6_go_172 rfl (lv_at hl 3 rfl) ?_
              refine lv_iload_n hx hb dX6_go_173 rfl (lv_at hl 4 rfl) ?_
              refine lv_iconst (v := (3 : Int32)) hx hb dX6_go_174 (by decide) ?_
              refine lv_iload hx hb dX6_go_175 (lv_at hl 0 rfl) ?_
              obtain ⟨q_50, h_q_50, hT⟩ := mx_bind hT
              refine mx_callV (As := [.int (x1), .int ((3 : Int32)), .int (v_49)]) (rest := []) (st1 := []) (C := RX6) (T := TX6) (N := 11) (ci := 6) X Z hl.1 (c6_put l E hJ hc _ _ _ _ _ h_q_50) wd_15_18 wd_15_19 wd_15_20 wd_1_5 wd_15_21 hd6_put ⟨Nat.le_trans (by decide) hR.1, Nat.le_trans (by decide) hR.2⟩ ⟨Nat.zero_le _, Nat.zero_le _⟩ hc.i (hc.c _) rfl (Nat.le_of_ble_eq_true rfl) rfl rfl dX6_go_177 (fun H locs Z => ?_)
              refine lv_aload_n hx hb dX6_go_180 rfl (lv_at hl 3 rfl) ?_
              refine lv_iload_n hx hb dX6_go_181 rfl (lv_at hl 4 rfl) ?_
              refine lv_iconst (v := (5 : Int32)) hx hb dX6_go_182 (by decide) ?_
              refine lv_iconst (v := (1 : Int32)) hx hb dX6_go_183 (by decide) ?_
              refine lv_aload_n hx hb dX6_go_184 rfl (lv_at hl 3 rfl) ?_
              refine lv_iload hx hb dX6_go_185 (lv_at hl 0 rfl) ?_
              refine lv_iconst (v := (2 : Int32)) hx hb dX6_go_187 (by decide) ?_
              obtain ⟨q_51, h_q_51, hT⟩ := mx_bind hT
              refine mx_callV (As := [.int (v_49), .int ((2 : Int32))]) (rest := [.int ((1 : Int32)), .int ((5 : Int32)), .int (x1), .ref (mad E (246))]) (st1 := [.int (q_51), .int ((1 : Int32)), .int ((5 : Int32)), .int (x1), .ref (mad E (246))]) (C := RX6) (T := TX6) (N := 11) (ci := 6) X Z hl.1 (c6_seg l E hJ hc _ _ _ _ h_q_51) wd_21_23 wd_22_0 wd_22_1 wd_1_5 wd_22_2 hd6_seg ⟨Nat.le_trans (by decide) hR.1, Nat.le_trans (by decide) hR.2⟩ ⟨Nat.zero_le _, Nat.zero_le _⟩ hc.i (hc.c _) rfl (Nat.le_of_ble_eq_true rfl) rfl rfl dX6_go_188 (fun H locs Z => ?_)
              refine lv_bipush (v := (100 : Int32)) hx hb dX6_go_191 (by decide) ?_
              refine lv_idiv hx hb dX6_go_193 (by decide) ?_
              refine lv_iadd hx hb dX6_go_194 ?_
              obtain ⟨q_52, h_q_52, hT⟩ := mx_bind hT
              refine mx_callV (As := [.int (x1), .int ((5 : Int32)), .int (((1 : Int32)) + (q_51 / ((100 : Int32))))]) (rest := []) (st1 := []) (C := RX6) (T := TX6) (N := 11) (ci := 6) X Z hl.1 (c6_put l E hJ hc _ _ _ _ _ h_q_52) wd_15_18 wd_15_19 wd_15_20 wd_1_5 wd_15_21 hd6_put ⟨Nat.le_trans (by decide) hR.1, Nat.le_trans (by decide) hR.2⟩ ⟨Nat.zero_le _, Nat.zero_le _⟩ hc.i (hc.c _) rfl (Nat.le_of_ble_eq_true rfl) rfl rfl dX6_go_195 (fun H locs Z => ?_)
              cases hT
              exact W.vret hx hb hr (fun t ht hW => mx_end Z t ht _) Z.2.2.2 dX6_go_198
          · replace hT := mx_t hT h_43
            refine lv_aload_n hx hb dX6_go_109 rfl (lv_at hl 2 rfl) ?_
            refine mx_get (v := .ref (mad E (247))) (ci := 6) (C := RX6) (T := TX6) (N := 11) X Z hc.i (hc.c _) rfl inlX6 0 (by decide) wd_7_23 rfl dX6_go_110 ?_
            refine lv_bipush (v := (79 : Int32)) hx hb dX6_go_113 (by decide) ?_
            refine lv_dup2_11 hx hb dX6_go_115 rfl rfl ?_
            refine mx_iald X Z hc.z (mx_lit (by decide)) dX6_go_116 ?_
            refine mx_tops (s2 := [.int (G 247 79), .int ((79 : Int32)), .ref (mad E (247))]) rfl ?_
            refine lv_aload_n hx hb dX6_go_117 rfl (lv_at hl 2 rfl) ?_
            refine lv_iload_n hx hb dX6_go_118 rfl (lv_at hl 3 rfl) ?_
            obtain ⟨q_53, h_q_53, hT⟩ := mx_bind hT
            refine mx_callV (As := [.int (x1)]) (rest := [.int (G 247 79), .int ((79 : Int32)), .ref (mad E (247))]) (st1 := [.int (q_53), .int (G 247 79), .int ((79 : Int32)), .ref (mad E (247))]) (C := RX6) (T := TX6) (N := 11) (ci := 6) X Z hl.1 (c6_wanted l E hJ hc _ _ _ h_q_53) wd_21_19 wd_21_20 wd_21_21 wd_1_5 wd_21_22 hd6_wanted ⟨Nat.le_trans (by decide) hR.1, Nat.le_trans (by decide) hR.2⟩ ⟨Nat.zero_le _, Nat.zero_le _⟩ hc.i (hc.c _) rfl (Nat.le_of_ble_eq_true rfl) rfl rfl dX6_go_119 (fun H locs Z => ?_)
            refine lv_isub hx hb dX6_go_122 ?_
            obtain ⟨G_54, e_G_54, hT⟩ := mx_nm hT
            refine mx_iast X Z hc.z (mx_lit (by decide)) dX6_go_123 (fun H locs Z => ?_)
            replace Z : mZ E s.heap H locs (up2 G 247 79 ((G 247 79) - q_53)) := Z
            rw [e_G_54] at Z
            refine lv_aload_n hx hb dX6_go_124 rfl (lv_at hl 2 rfl) ?_
            refine lv_iload_n hx hb dX6_go_125 rfl (lv_at hl 3 rfl) ?_
            refine lv_iconst (v := (2 : Int32)) hx hb dX6_go_126 (by decide) ?_
            refine lv_aload_n hx hb dX6_go_127 rfl (lv_at hl 2 rfl) ?_
            refine lv_iload_n hx hb dX6_go_128 rfl (lv_at hl 3 rfl) ?_
            obtain ⟨q_55, h_q_55, hT⟩ := mx_bind hT
            refine mx_callV (As := [.int (x1)]) (rest := [.int ((2 : Int32)), .int (x1), .ref (mad E (246))]) (st1 := [.int (q_55), .int ((2 : Int32)), .int (x1), .ref (mad E (246))]) (C := RX6) (T := TX6) (N := 11) (ci := 6) X Z hl.1 (c6_wanted l E hJ hc _ _ _ h_q_55) wd_21_19 wd_21_20 wd_21_21 wd_1_5 wd_21_22 hd6_wanted ⟨Nat.le_trans (by decide) hR.1, Nat.le_trans (by decide) hR.2⟩ ⟨Nat.zero_le _, Nat.zero_le _⟩ hc.i (hc.c _) rfl (Nat.le_of_ble_eq_true rfl) rfl rfl dX6_go_129 (fun H locs Z => ?_)
            obtain ⟨q_56, h_q_56, hT⟩ := mx_bind hT
            refine mx_callV (As := [.int (x1), .int ((2 : Int32)), .int (q_55)]) (rest := []) (st1 := []) (C := RX6) (T := TX6) (N := 11) (ci := 6) X Z hl.1 (c6_put l E hJ hc _ _ _ _ _ h_q_56) wd_15_18 wd_15_19 wd_15_20 wd_1_5 wd_15_21 hd6_put ⟨Nat.le_trans (by decide) hR.1, Nat.le_trans (by decide) hR.2⟩ ⟨Nat.zero_le _, Nat.zero_le _⟩ hc.i (hc.c _) rfl (Nat.le_of_ble_eq_true rfl) rfl rfl dX6_go_132 (fun H locs Z => ?_)
            refine lv_aload_n hx hb dX6_go_135 rfl (lv_at hl 2 rfl) ?_
            refine lv_iload_n hx hb dX6_go_136 rfl (lv_at hl 3 rfl) ?_
            refine lv_iconst (v := (4 : Int32)) hx hb dX6_go_137 (by decide) ?_
            refine lv_iconst (v := (1 : Int32)) hx hb dX6_go_138 (by decide) ?_
            obtain ⟨q_57, h_q_57, hT⟩ := mx_bind hT
            refine mx_callV (As := [.int (x1), .int ((4 : Int32)), .int ((1 : Int32))]) (rest := []) (st1 := []) (C := RX6) (T := TX6) (N := 11) (ci := 6) X Z hl.1 (c6_put l E hJ hc _ _ _ _ _ h_q_57) wd_15_18 wd_15_19 wd_15_20 wd_1_5 wd_15_21 hd6_put ⟨Nat.le_trans (by decide) hR.1, Nat.le_trans (by decide) hR.2⟩ ⟨Nat.zero_le _, Nat.zero_le _⟩ hc.i (hc.c _) rfl (Nat.le_of_ble_eq_true rfl) rfl rfl dX6_go_139 (fun H locs Z => ?_)
            refine lv_aload_n hx hb dX6_go_142 rfl (lv_at hl 2 rfl) ?_
            refine lv_iload_n hx hb dX6_go_143 rfl (lv_at hl 3 rfl) ?_
            refine lv_iconst (v := (5 : Int32)) hx hb dX6_go_144 (by decide) ?_
            refine lv_aload_n hx hb dX6_go_145 rfl (lv_at hl 2 rfl) ?_
            refine lv_iload_n hx hb dX6_go_146 rfl (lv_at hl 3 rfl) ?_
            refine lv_iconst (v := (0 : Int32)) hx hb dX6_go_147 (by decide) ?_
            obtain ⟨q_58, h_q_58, hT⟩ := mx_bind hT
            refine mx_callV (As := [.int (x1), .int ((0 : Int32))]) (rest := [.int ((5 : Int32)), .int (x1), .ref (mad E (246))]) (st1 := [.int (q_58), .int ((5 : Int32)), .int (x1), .ref (mad E (246))]) (C := RX6) (T := TX6) (N := 11) (ci := 6) X Z hl.1 (c6_of l E hJ hc _ _ _ _ h_q_58) wd_13_11 wd_13_12 wd_13_13 wd_1_5 wd_13_14 hd6_of ⟨Nat.le_trans (by decide) hR.1, Nat.le_trans (by decide) hR.2⟩ ⟨Nat.zero_le _, Nat.zero_le _⟩ hc.i (hc.c _) rfl (Nat.le_of_ble_eq_true rfl) rfl rfl dX6_go_148 (fun H locs Z => ?_)
            obtain ⟨q_59, h_q_59, hT⟩ := mx_bind hT
            refine mx_callV (As := [.int (x1), .int ((5 : Int32)), .int (q_58)]) (rest := []) (st1 := []) (C := RX6) (T := TX6) (N := 11) (ci := 6) X Z hl.1 (c6_put l E hJ hc _ _ _ _ _ h_q_59) wd_15_18 wd_15_19 wd_15_20 wd_1_5 wd_15_21 hd6_put ⟨Nat.le_trans (by decide) hR.1, Nat.le_trans (by decide) hR.2⟩ ⟨Nat.zero_le _, Nat.zero_le _⟩ hc.i (hc.c _) rfl (Nat.le_of_ble_eq_true rfl) rfl rfl dX6_go_151 (fun H locs Z => ?_)
            refine lv_goto (tgt := 198) hx hb dX6_go_154 (by decide) ?_
            cases hT
            exact W.vret hx hb hr (fun t ht hW => mx_end Z t ht _) Z.2.2.2 dX6_go_198
      · replace hT := mx_t hT h_32
        refine lv_aload_n hx hb dX6_go_40 rfl (lv_at hl 2 rfl) ?_
        refine mx_get (v := .ref (mad E (247))) (ci := 6) (C := RX6) (T := TX6) (N := 11) X Z hc.i (hc.c _) rfl inlX6 0 (by decide) wd_7_23 rfl dX6_go_41 ?_
        refine lv_bipush (v := (80 : Int32)) hx hb dX6_go_44 (by decide) ?_
        refine lv_dup2_11 hx hb dX6_go_46 rfl rfl ?_
        refine mx_iald X Z hc.z (mx_lit (by decide)) dX6_go_47 ?_
        refine mx_tops (s2 := [.int (G 247 80), .int ((80 : Int32)), .ref (mad E (247))]) rfl ?_
        refine lv_aload_n hx hb dX6_go_48 rfl (lv_at hl 2 rfl) ?_
        refine lv_iload_n hx hb dX6_go_49 rfl (lv_at hl 3 rfl) ?_
        refine lv_iconst (v := (2 : Int32)) hx hb dX6_go_50 (by decide) ?_
        obtain ⟨q_60, h_q_60, hT⟩ := mx_bind hT
        refine mx_callV (As := [.int (x1), .int ((2 : Int32))]) (rest := [.int (G 247 80), .int ((80 : Int32)), .ref (mad E (247))]) (st1 := [.int (q_60), .int (G 247 80), .int ((80 : Int32)), .ref (mad E (247))]) (C := RX6) (T := TX6) (N := 11) (ci := 6) X Z hl.1 (c6_of l E hJ hc _ _ _ _ h_q_60) wd_13_11 wd_13_12 wd_13_13 wd_1_5 wd_13_14 hd6_of ⟨Nat.le_trans (by decide) hR.1, Nat.le_trans (by decide) hR.2⟩ ⟨Nat.zero_le _, Nat.zero_le _⟩ hc.i (hc.c _) rfl (Nat.le_of_ble_eq_true rfl) rfl rfl dX6_go_51 (fun H locs Z => ?_)
        refine lv_iadd hx hb dX6_go_54 ?_
        obtain ⟨G_61, e_G_61, hT⟩ := mx_nm hT
        refine mx_iast X Z hc.z (mx_lit (by decide)) dX6_go_55 (fun H locs Z => ?_)
        replace Z : mZ E s.heap H locs (up2 G 247 80 ((G 247 80) + q_60)) := Z
        rw [e_G_61] at Z
        refine lv_aload_n hx hb dX6_go_56 rfl (lv_at hl 2 rfl) ?_
        refine lv_iload_n hx hb dX6_go_57 rfl (lv_at hl 3 rfl) ?_
        refine lv_iconst (v := (2 : Int32)) hx hb dX6_go_58 (by decide) ?_
        refine lv_iconst (v := (0 : Int32)) hx hb dX6_go_59 (by decide) ?_
        obtain ⟨q_62, h_q_62, hT⟩ := mx_bind hT
        refine mx_callV (As := [.int (x1), .int ((2 : Int32)), .int ((0 : Int32))]) (rest := []) (st1 := []) (C := RX6) (T := TX6) (N := 11) (ci := 6) X Z hl.1 (c6_put l E hJ hc _ _ _ _ _ h_q_62) wd_15_18 wd_15_19 wd_15_20 wd_1_5 wd_15_21 hd6_put ⟨Nat.le_trans (by decide) hR.1, Nat.le_trans (by decide) hR.2⟩ ⟨Nat.zero_le _, Nat.zero_le _⟩ hc.i (hc.c _) rfl (Nat.le_of_ble_eq_true rfl) rfl rfl dX6_go_60 (fun H locs Z => ?_)
        refine lv_aload_n hx hb dX6_go_63 rfl (lv_at hl 2 rfl) ?_
        refine lv_iload_n hx hb dX6_go_64 rfl (lv_at hl 3 rfl) ?_
        refine lv_iconst (v := (4 : Int32)) hx hb dX6_go_65 (by decide) ?_
        refine lv_iconst (v := (0 : Int32)) hx hb dX6_go_66 (by decide) ?_
        obtain ⟨q_63, h_q_63, hT⟩ := mx_bind hT
        refine mx_callV (As := [.int (x1), .int ((4 : Int32)), .int ((0 : Int32))]) (rest := []) (st1 := []) (C := RX6) (T := TX6) (N := 11) (ci := 6) X Z hl.1 (c6_put l E hJ hc _ _ _ _ _ h_q_63) wd_15_18 wd_15_19 wd_15_20 wd_1_5 wd_15_21 hd6_put ⟨Nat.le_trans (by decide) hR.1, Nat.le_trans (by decide) hR.2⟩ ⟨Nat.zero_le _, Nat.zero_le _⟩ hc.i (hc.c _) rfl (Nat.le_of_ble_eq_true rfl) rfl rfl dX6_go_67 (fun H locs Z => ?_)
        refine lv_aload_n hx hb dX6_go_70 rfl (lv_at hl 2 rfl) ?_
        refine lv_iload_n hx hb dX6_go_71 rfl (lv_at hl 3 rfl) ?_
        refine lv_iconst (v := (5 : Int32)) hx hb dX6_go_72 (by decide) ?_
        refine lv_aload_n hx hb dX6_go_73 rfl (lv_at hl 2 rfl) ?_
        refine lv_iload_n hx hb dX6_go_74 rfl (lv_at hl 3 rfl) ?_
        refine lv_iconst (v := (0 : Int32)) hx hb dX6_go_75 (by decide) ?_
        obtain ⟨q_64, h_q_64, hT⟩ := mx_bind hT
        refine mx_callV (As := [.int (x1), .int ((0 : Int32))]) (rest := [.int ((5 : Int32)), .int (x1), .ref (mad E (246))]) (st1 := [.int (q_64), .int ((5 : Int32)), .int (x1), .ref (mad E (246))]) (C := RX6) (T := TX6) (N := 11) (ci := 6) X Z hl.1 (c6_of l E hJ hc _ _ _ _ h_q_64) wd_13_11 wd_13_12 wd_13_13 wd_1_5 wd_13_14 hd6_of ⟨Nat.le_trans (by decide) hR.1, Nat.le_trans (by decide) hR.2⟩ ⟨Nat.zero_le _, Nat.zero_le _⟩ hc.i (hc.c _) rfl (Nat.le_of_ble_eq_true rfl) rfl rfl dX6_go_76 (fun H locs Z => ?_)
        obtain ⟨q_65, h_q_65, hT⟩ := mx_bind hT
        refine mx_callV (As := [.int (x1), .int ((5 : Int32)), .int (q_64)]) (rest := []) (st1 := []) (C := RX6) (T := TX6) (N := 11) (ci := 6) X Z hl.1 (c6_put l E hJ hc _ _ _ _ _ h_q_65) wd_15_18 wd_15_19 wd_15_20 wd_1_5 wd_15_21 hd6_put ⟨Nat.le_trans (by decide) hR.1, Nat.le_trans (by decide) hR.2⟩ ⟨Nat.zero_le _, Nat.zero_le _⟩ hc.i (hc.c _) rfl (Nat.le_of_ble_eq_true rfl) rfl rfl dX6_go_79 (fun H locs Z => ?_)
        refine lv_aload_n hx hb dX6_go_82 rfl (lv_at hl 2 rfl) ?_
        refine lv_iload_n hx hb dX6_go_83 rfl (lv_at hl 3 rfl) ?_
        refine lv_bipush (v := (8 : Int32)) hx hb dX6_go_84 (by decide) ?_
        refine lv_aload_n hx hb dX6_go_86 rfl (lv_at hl 2 rfl) ?_
        refine lv_iload_n hx hb dX6_go_87 rfl (lv_at hl 3 rfl) ?_
        refine lv_bipush (v := (8 : Int32)) hx hb dX6_go_88 (by decide) ?_
        obtain ⟨q_66, h_q_66, hT⟩ := mx_bind hT
        refine mx_callV (As := [.int (x1), .int ((8 : Int32))]) (rest := [.int ((8 : Int32)), .int (x1), .ref (mad E (246))]) (st1 := [.int (q_66), .int ((8 : Int32)), .int (x1), .ref (mad E (246))]) (C := RX6) (T := TX6) (N := 11) (ci := 6) X Z hl.1 (c6_of l E hJ hc _ _ _ _ h_q_66) wd_13_11 wd_13_12 wd_13_13 wd_1_5 wd_13_14 hd6_of ⟨Nat.le_trans (by decide) hR.1, Nat.le_trans (by decide) hR.2⟩ ⟨Nat.zero_le _, Nat.zero_le _⟩ hc.i (hc.c _) rfl (Nat.le_of_ble_eq_true rfl) rfl rfl dX6_go_90 (fun H locs Z => ?_)
        refine lv_iconst (v := (1 : Int32)) hx hb dX6_go_93 (by decide) ?_
        refine lv_iadd hx hb dX6_go_94 ?_
        obtain ⟨q_67, h_q_67, hT⟩ := mx_bind hT
        refine mx_callV (As := [.int (x1), .int ((8 : Int32)), .int (q_66 + ((1 : Int32)))]) (rest := []) (st1 := []) (C := RX6) (T := TX6) (N := 11) (ci := 6) X Z hl.1 (c6_put l E hJ hc _ _ _ _ _ h_q_67) wd_15_18 wd_15_19 wd_15_20 wd_1_5 wd_15_21 hd6_put ⟨Nat.le_trans (by decide) hR.1, Nat.le_trans (by decide) hR.2⟩ ⟨Nat.zero_le _, Nat.zero_le _⟩ hc.i (hc.c _) rfl (Nat.le_of_ble_eq_true rfl) rfl rfl dX6_go_95 (fun H locs Z => ?_)
        refine lv_goto (tgt := 198) hx hb dX6_go_98 (by decide) ?_
        cases hT
        exact W.vret hx hb hr (fun t ht hW => mx_end Z t ht _) Z.2.2.2 dX6_go_198
  · replace hT := mx_t hT h_3
    refine lv_iconst (v := (1 : Int32)) hx hb dX6_go_17 (by decide) ?_
    refine lv_goto (tgt := 22) hx hb dX6_go_18 (by decide) ?_
    refine lv_istore_n (lv' := [(3, .int ((1 : Int32))), (2, .int (q_1)), (0, .ref (mad E (246))), (1, .int (x1))]) hx hb dX6_go_22 rfl hl (by decide) rfl (fun ls hl => ?_)
    refine lv_iload_n hx hb dX6_go_23 rfl (lv_at hl 0 rfl) ?_
    refine lv_if_eq (tgt := 101) hx hb dX6_go_24 (by decide) (fun h_68 => ?_) (fun h_68 => ?_)
    · replace hT := mx_t hT h_68
      refine lv_iload_n hx hb dX6_go_101 rfl (lv_at hl 0 rfl) ?_
      refine lv_if_ne (tgt := 157) hx hb dX6_go_102 (by decide) (fun h_69 => ?_) (fun h_69 => ?_)
      · replace hT := mx_f hT h_69
        refine lv_iload_n hx hb dX6_go_157 rfl (lv_at hl 0 rfl) ?_
        refine lv_if_eq (tgt := 167) hx hb dX6_go_158 (by decide) (fun h_70 => ?_) (fun h_70 => ?_)
        · replace hT := mx_t hT h_70
          refine lv_iload_n hx hb dX6_go_167 rfl (lv_at hl 1 rfl) ?_
          refine lv_iconst (v := (1 : Int32)) hx hb dX6_go_168 (by decide) ?_
          refine lv_isub hx hb dX6_go_169 ?_
          obtain ⟨v_71, e_v_71, hT⟩ := mx_nm hT
          refine mx_tops (congrArg (fun z => (.int (z) :: [] : List Value)) e_v_71) ?_
          refine lv_istore (lv' := [(4, .int (v_71)), (3, .int ((1 : Int32))), (2, .int (q_1)), (0, .ref (mad E (246))), (1, .int (x1))]) hx hb dX6_go_170 hl (by decide) rfl (fun ls hl => ?_)
          refine lv_aload_n hx hb dX6_go_172 rfl (lv_at hl 3 rfl) ?_
          refine lv_iload_n hx hb dX6_go_173 rfl (lv_at hl 4 rfl) ?_
          refine lv_iconst (v := (3 : Int32)) hx hb dX6_go_174 (by decide) ?_
          refine lv_iload hx hb dX6_go_175 (lv_at hl 0 rfl) ?_
          obtain ⟨q_72, h_q_72, hT⟩ := mx_bind hT
          refine mx_callV (As := [.int (x1), .int ((3 : Int32)), .int (v_71)]) (rest := []) (st1 := []) (C := RX6) (T := TX6) (N := 11) (ci := 6) X Z hl.1 (c6_put l E hJ hc _ _ _ _ _ h_q_72) wd_15_18 wd_15_19 wd_15_20 wd_1_5 wd_15_21 hd6_put ⟨Nat.le_trans (by decide) hR.1, Nat.le_trans (by decide) hR.2⟩ ⟨Nat.zero_le _, Nat.zero_le _⟩ hc.i (hc.c _) rfl (Nat.le_of_ble_eq_true rfl) rfl rfl dX6_go_177 (fun H locs Z => ?_)
          refine lv_aload_n hx hb dX6_go_180 rfl (lv_at hl 3 rfl) ?_
          refine lv_iload_n hx hb dX6_go_181 rfl (lv_at hl 4 rfl) ?_
          refine lv_iconst (v := (5 : Int32)) hx hb dX6_go_182 (by decide) ?_
          refine lv_iconst (v := (1 : Int32)) hx hb dX6_go_183 (by decide) ?_
          refine lv_aload_n hx hb dX6_go_184 rfl (lv_at hl 3 rfl) ?_
          refine lv_iload hx hb dX6_go_185 (lv_at hl 0 rfl) ?_
          refine lv_iconst (v := (2 : Int32)) hx hb dX6_go_187 (by decide) ?_
          obtain ⟨q_73, h_q_73, hT⟩ := mx_bind hT
          refine mx_callV (As := [.int (v_71), .int ((2 : Int32))]) (rest := [.int ((1 : Int32)), .int ((5 : Int32)), .int (x1), .ref (mad E (246))]) (st1 := [.int (q_73), .int ((1 : Int32)), .int ((5 : Int32)), .int (x1), .ref (mad E (246))]) (C := RX6) (T := TX6) (N := 11) (ci := 6) X Z hl.1 (c6_seg l E hJ hc _ _ _ _ h_q_73) wd_21_23 wd_22_0 wd_22_1 wd_1_5 wd_22_2 hd6_seg ⟨Nat.le_trans (by decide) hR.1, Nat.le_trans (by decide) hR.2⟩ ⟨Nat.zero_le _, Nat.zero_le _⟩ hc.i (hc.c _) rfl (Nat.le_of_ble_eq_true rfl) rfl rfl dX6_go_188 (fun H locs Z => ?_)
          refine lv_bipush (v := (100 : Int32)) hx hb dX6_go_191 (by decide) ?_
          refine lv_idiv hx hb dX6_go_193 (by decide) ?_
          refine lv_iadd hx hb dX6_go_194 ?_
          obtain ⟨q_74, h_q_74, hT⟩ := mx_bind hT
          refine mx_callV (As := [.int (x1), .int ((5 : Int32)), .int (((1 : Int32)) + (q_73 / ((100 : Int32))))]) (rest := []) (st1 := []) (C := RX6) (T := TX6) (N := 11) (ci := 6) X Z hl.1 (c6_put l E hJ hc _ _ _ _ _ h_q_74) wd_15_18 wd_15_19 wd_15_20 wd_1_5 wd_15_21 hd6_put ⟨Nat.le_trans (by decide) hR.1, Nat.le_trans (by decide) hR.2⟩ ⟨Nat.zero_le _, Nat.zero_le _⟩ hc.i (hc.c _) rfl (Nat.le_of_ble_eq_true rfl) rfl rfl dX6_go_195 (fun H locs Z => ?_)
          cases hT
          exact W.vret hx hb hr (fun t ht hW => mx_end Z t ht _) Z.2.2.2 dX6_go_198
        · replace hT := mx_f hT h_70
          refine lv_iload_n hx hb dX6_go_161 rfl (lv_at hl 1 rfl) ?_
          refine lv_iconst (v := (1 : Int32)) hx hb dX6_go_162 (by decide) ?_
          refine lv_iadd hx hb dX6_go_163 ?_
          refine lv_goto (tgt := 170) hx hb dX6_go_164 (by decide) ?_
          obtain ⟨v_75, e_v_75, hT⟩ := mx_nm hT
          refine mx_tops (congrArg (fun z => (.int (z) :: [] : List Value)) e_v_75) ?_
          refine lv_istore (lv' := [(4, .int (v_75)), (3, .int ((1 : Int32))), (2, .int (q_1)), (0, .ref (mad E (246))), (1, .int (x1))]) hx hb dX6_go_170 hl (by decide) rfl (fun ls hl => ?_)
          refine lv_aload_n hx hb dX6_go_172 rfl (lv_at hl 3 rfl) ?_
          refine lv_iload_n hx hb dX6_go_173 rfl (lv_at hl 4 rfl) ?_
          refine lv_iconst (v := (3 : Int32)) hx hb dX6_go_174 (by decide) ?_
          refine lv_iload hx hb dX6_go_175 (lv_at hl 0 rfl) ?_
          obtain ⟨q_76, h_q_76, hT⟩ := mx_bind hT
          refine mx_callV (As := [.int (x1), .int ((3 : Int32)), .int (v_75)]) (rest := []) (st1 := []) (C := RX6) (T := TX6) (N := 11) (ci := 6) X Z hl.1 (c6_put l E hJ hc _ _ _ _ _ h_q_76) wd_15_18 wd_15_19 wd_15_20 wd_1_5 wd_15_21 hd6_put ⟨Nat.le_trans (by decide) hR.1, Nat.le_trans (by decide) hR.2⟩ ⟨Nat.zero_le _, Nat.zero_le _⟩ hc.i (hc.c _) rfl (Nat.le_of_ble_eq_true rfl) rfl rfl dX6_go_177 (fun H locs Z => ?_)
          refine lv_aload_n hx hb dX6_go_180 rfl (lv_at hl 3 rfl) ?_
          refine lv_iload_n hx hb dX6_go_181 rfl (lv_at hl 4 rfl) ?_
          refine lv_iconst (v := (5 : Int32)) hx hb dX6_go_182 (by decide) ?_
          refine lv_iconst (v := (1 : Int32)) hx hb dX6_go_183 (by decide) ?_
          refine lv_aload_n hx hb dX6_go_184 rfl (lv_at hl 3 rfl) ?_
          refine lv_iload hx hb dX6_go_185 (lv_at hl 0 rfl) ?_
          refine lv_iconst (v := (2 : Int32)) hx hb dX6_go_187 (by decide) ?_
          obtain ⟨q_77, h_q_77, hT⟩ := mx_bind hT
          refine mx_callV (As := [.int (v_75), .int ((2 : Int32))]) (rest := [.int ((1 : Int32)), .int ((5 : Int32)), .int (x1), .ref (mad E (246))]) (st1 := [.int (q_77), .int ((1 : Int32)), .int ((5 : Int32)), .int (x1), .ref (mad E (246))]) (C := RX6) (T := TX6) (N := 11) (ci := 6) X Z hl.1 (c6_seg l E hJ hc _ _ _ _ h_q_77) wd_21_23 wd_22_0 wd_22_1 wd_1_5 wd_22_2 hd6_seg ⟨Nat.le_trans (by decide) hR.1, Nat.le_trans (by decide) hR.2⟩ ⟨Nat.zero_le _, Nat.zero_le _⟩ hc.i (hc.c _) rfl (Nat.le_of_ble_eq_true rfl) rfl rfl dX6_go_188 (fun H locs Z => ?_)
          refine lv_bipush (v := (100 : Int32)) hx hb dX6_go_191 (by decide) ?_
          refine lv_idiv hx hb dX6_go_193 (by decide) ?_
          refine lv_iadd hx hb dX6_go_194 ?_
          obtain ⟨q_78, h_q_78, hT⟩ := mx_bind hT
          refine mx_callV (As := [.int (x1), .int ((5 : Int32)), .int (((1 : Int32)) + (q_77 / ((100 : Int32))))]) (rest := []) (st1 := []) (C := RX6) (T := TX6) (N := 11) (ci := 6) X Z hl.1 (c6_put l E hJ hc _ _ _ _ _ h_q_78) wd_15_18 wd_15_19 wd_15_20 wd_1_5 wd_15_21 hd6_put ⟨Nat.le_trans (by decide) hR.1, Nat.le_trans (by decide) hR.2⟩ ⟨Nat.zero_le _, Nat.zero_le _⟩ hc.i (hc.c _) rfl (Nat.le_of_ble_eq_true rfl) rfl rfl dX6_go_195 (fun H locs Z => ?_)
          cases hT
          exact W.vret hx hb hr (fun t ht hW => mx_end Z t ht _) Z.2.2.2 dX6_go_198
      · replace hT := mx_t hT h_69
        refine lv_iload_n hx hb dX6_go_105 rfl (lv_at hl 1 rfl) ?_
        refine lv_if_ne (tgt := 157) hx hb dX6_go_106 (by decide) (fun h_79 => ?_) (fun h_79 => ?_)
        · replace hT := mx_f hT h_79
          refine lv_iload_n hx hb dX6_go_157 rfl (lv_at hl 0 rfl) ?_
          refine lv_if_eq (tgt := 167) hx hb dX6_go_158 (by decide) (fun h_80 => ?_) (fun h_80 => ?_)
          · replace hT := mx_t hT h_80
            refine lv_iload_n hx hb dX6_go_167 rfl (lv_at hl 1 rfl) ?_
            refine lv_iconst (v := (1 : Int32)) hx hb dX6_go_168 (by decide) ?_
            refine lv_isub hx hb dX6_go_169 ?_
            obtain ⟨v_81, e_v_81, hT⟩ := mx_nm hT
            refine mx_tops (congrArg (fun z => (.int (z) :: [] : List Value)) e_v_81) ?_
            refine lv_istore (lv' := [(4, .int (v_81)), (3, .int ((1 : Int32))), (2, .int (q_1)), (0, .ref (mad E (246))), (1, .int (x1))]) hx hb dX6_go_170 hl (by decide) rfl (fun ls hl => ?_)
            refine lv_aload_n hx hb dX6_go_172 rfl (lv_at hl 3 rfl) ?_
            refine lv_iload_n hx hb dX6_go_173 rfl (lv_at hl 4 rfl) ?_
            refine lv_iconst (v := (3 : Int32)) hx hb dX6_go_174 (by decide) ?_
            refine lv_iload hx hb dX6_go_175 (lv_at hl 0 rfl) ?_
            obtain ⟨q_82, h_q_82, hT⟩ := mx_bind hT
            refine mx_callV (As := [.int (x1), .int ((3 : Int32)), .int (v_81)]) (rest := []) (st1 := []) (C := RX6) (T := TX6) (N := 11) (ci := 6) X Z hl.1 (c6_put l E hJ hc _ _ _ _ _ h_q_82) wd_15_18 wd_15_19 wd_15_20 wd_1_5 wd_15_21 hd6_put ⟨Nat.le_trans (by decide) hR.1, Nat.le_trans (by decide) hR.2⟩ ⟨Nat.zero_le _, Nat.zero_le _⟩ hc.i (hc.c _) rfl (Nat.le_of_ble_eq_true rfl) rfl rfl dX6_go_177 (fun H locs Z => ?_)
            refine lv_aload_n hx hb dX6_go_180 rfl (lv_at hl 3 rfl) ?_
            refine lv_iload_n hx hb dX6_go_181 rfl (lv_at hl 4 rfl) ?_
            refine lv_iconst (v := (5 : Int32)) hx hb dX6_go_182 (by decide) ?_
            refine lv_iconst (v := (1 : Int32)) hx hb dX6_go_183 (by decide) ?_
            refine lv_aload_n hx hb dX6_go_184 rfl (lv_at hl 3 rfl) ?_
            refine lv_iload hx hb dX6_go_185 (lv_at hl 0 rfl) ?_
            refine lv_iconst (v := (2 : Int32)) hx hb dX6_go_187 (by decide) ?_
            obtain ⟨q_83, h_q_83, hT⟩ := mx_bind hT
            refine mx_callV (As := [.int (v_81), .int ((2 : Int32))]) (rest := [.int ((1 : Int32)), .int ((5 : Int32)), .int (x1), .ref (mad E (246))]) (st1 := [.int (q_83), .int ((1 : Int32)), .int ((5 : Int32)), .int (x1), .ref (mad E (246))]) (C := RX6) (T := TX6) (N := 11) (ci := 6) X Z hl.1 (c6_seg l E hJ hc _ _ _ _ h_q_83) wd_21_23 wd_22_0 wd_22_1 wd_1_5 wd_22_2 hd6_seg ⟨Nat.le_trans (by decide) hR.1, Nat.le_trans (by decide) hR.2⟩ ⟨Nat.zero_le _, Nat.zero_le _⟩ hc.i (hc.c _) rfl (Nat.le_of_ble_eq_true rfl) rfl rfl dX6_go_188 (fun H locs Z => ?_)
            refine lv_bipush (v := (100 : Int32)) hx hb dX6_go_191 (by decide) ?_
            refine lv_idiv hx hb dX6_go_193 (by decide) ?_
            refine lv_iadd hx hb dX6_go_194 ?_
            obtain ⟨q_84, h_q_84, hT⟩ := mx_bind hT
            refine mx_callV (As := [.int (x1), .int ((5 : Int32)), .int (((1 : Int32)) + (q_83 / ((100 : Int32))))]) (rest := []) (st1 := []) (C := RX6) (T := TX6) (N := 11) (ci := 6) X Z hl.1 (c6_put l E hJ hc _ _ _ _ _ h_q_84) wd_15_18 wd_15_19 wd_15_20 wd_1_5 wd_15_21 hd6_put ⟨Nat.le_trans (by decide) hR.1, Nat.le_trans (by decide) hR.2⟩ ⟨Nat.zero_le _, Nat.zero_le _⟩ hc.i (hc.c _) rfl (Nat.le_of_ble_eq_true rfl) rfl rfl dX6_go_195 (fun H locs Z => ?_)
            cases hT
            exact W.vret hx hb hr (fun t ht hW => mx_end Z t ht _) Z.2.2.2 dX6_go_198
          · replace hT := mx_f hT h_80
            refine lv_iload_n hx hb dX6_go_161 rfl (lv_at hl 1 rfl) ?_
            refine lv_iconst (v := (1 : Int32)) hx hb dX6_go_162 (by decide) ?_
            refine lv_iadd hx hb dX6_go_163 ?_
            refine lv_goto (tgt := 170) hx hb dX6_go_164 (by decide) ?_
            obtain ⟨v_85, e_v_85, hT⟩ := mx_nm hT
            refine mx_tops (congrArg (fun z => (.int (z) :: [] : List Value)) e_v_85) ?_
            refine lv_istore (lv' := [(4, .int (v_85)), (3, .int ((1 : Int32))), (2, .int (q_1)), (0, .ref (mad E (246))), (1, .int (x1))]) hx hb dX6_go_170 hl (by decide) rfl (fun ls hl => ?_)
            refine lv_aload_n hx hb dX6_go_172 rfl (lv_at hl 3 rfl) ?_
            refine lv_iload_n hx hb dX6_go_173 rfl (lv_at hl 4 rfl) ?_
            refine lv_iconst (v := (3 : Int32)) hx hb dX6_go_174 (by decide) ?_
            refine lv_iload hx hb dX6_go_175 (lv_at hl 0 rfl) ?_
            obtain ⟨q_86, h_q_86, hT⟩ := mx_bind hT
            refine mx_callV (As := [.int (x1), .int ((3 : Int32)), .int (v_85)]) (rest := []) (st1 := []) (C := RX6) (T := TX6) (N := 11) (ci := 6) X Z hl.1 (c6_put l E hJ hc _ _ _ _ _ h_q_86) wd_15_18 wd_15_19 wd_15_20 wd_1_5 wd_15_21 hd6_put ⟨Nat.le_trans (by decide) hR.1, Nat.le_trans (by decide) hR.2⟩ ⟨Nat.zero_le _, Nat.zero_le _⟩ hc.i (hc.c _) rfl (Nat.le_of_ble_eq_true rfl) rfl rfl dX6_go_177 (fun H locs Z => ?_)
            refine lv_aload_n hx hb dX6_go_180 rfl (lv_at hl 3 rfl) ?_
            refine lv_iload_n hx hb dX6_go_181 rfl (lv_at hl 4 rfl) ?_
            refine lv_iconst (v := (5 : Int32)) hx hb dX6_go_182 (by decide) ?_
            refine lv_iconst (v := (1 : Int32)) hx hb dX6_go_183 (by decide) ?_
            refine lv_aload_n hx hb dX6_go_184 rfl (lv_at hl 3 rfl) ?_
            refine lv_iload hx hb dX6_go_185 (lv_at hl 0 rfl) ?_
            refine lv_iconst (v := (2 : Int32)) hx hb dX6_go_187 (by decide) ?_
            obtain ⟨q_87, h_q_87, hT⟩ := mx_bind hT
            refine mx_callV (As := [.int (v_85), .int ((2 : Int32))]) (rest := [.int ((1 : Int32)), .int ((5 : Int32)), .int (x1), .ref (mad E (246))]) (st1 := [.int (q_87), .int ((1 : Int32)), .int ((5 : Int32)), .int (x1), .ref (mad E (246))]) (C := RX6) (T := TX6) (N := 11) (ci := 6) X Z hl.1 (c6_seg l E hJ hc _ _ _ _ h_q_87) wd_21_23 wd_22_0 wd_22_1 wd_1_5 wd_22_2 hd6_seg ⟨Nat.le_trans (by decide) hR.1, Nat.le_trans (by decide) hR.2⟩ ⟨Nat.zero_le _, Nat.zero_le _⟩ hc.i (hc.c _) rfl (Nat.le_of_ble_eq_true rfl) rfl rfl dX6_go_188 (fun H locs Z => ?_)
            refine lv_bipush (v := (100 : Int32)) hx hb dX6_go_191 (by decide) ?_
            refine lv_idiv hx hb dX6_go_193 (by decide) ?_
            refine lv_iadd hx hb dX6_go_194 ?_
            obtain ⟨q_88, h_q_88, hT⟩ := mx_bind hT
            refine mx_callV (As := [.int (x1), .int ((5 : Int32)), .int (((1 : Int32)) + (q_87 / ((100 : Int32))))]) (rest := []) (st1 := []) (C := RX6) (T := TX6) (N := 11) (ci := 6) X Z hl.1 (c6_put l E hJ hc _ _ _ _ _ h_q_88) wd_15_18 wd_15_19 wd_15_20 wd_1_5 wd_15_21 hd6_put ⟨Nat.le_trans (by decide) hR.1, Nat.le_trans (by decide) hR.2⟩ ⟨Nat.zero_le _, Nat.zero_le _⟩ hc.i (hc.c _) rfl (Nat.le_of_ble_eq_true rfl) rfl rfl dX6_go_195 (fun H locs Z => ?_)
            cases hT
            exact W.vret hx hb hr (fun t ht hW => mx_end Z t ht _) Z.2.2.2 dX6_go_198
        · replace hT := mx_t hT h_79
          refine lv_aload_n hx hb dX6_go_109 rfl (lv_at hl 2 rfl) ?_
          refine mx_get (v := .ref (mad E (247))) (ci := 6) (C := RX6) (T := TX6) (N := 11) X Z hc.i (hc.c _) rfl inlX6 0 (by decide) wd_7_23 rfl dX6_go_110 ?_
          refine lv_bipush (v := (79 : Int32)) hx hb dX6_go_113 (by decide) ?_
          refine lv_dup2_11 hx hb dX6_go_115 rfl rfl ?_
          refine mx_iald X Z hc.z (mx_lit (by decide)) dX6_go_116 ?_
          refine mx_tops (s2 := [.int (G 247 79), .int ((79 : Int32)), .ref (mad E (247))]) rfl ?_
          refine lv_aload_n hx hb dX6_go_117 rfl (lv_at hl 2 rfl) ?_
          refine lv_iload_n hx hb dX6_go_118 rfl (lv_at hl 3 rfl) ?_
          obtain ⟨q_89, h_q_89, hT⟩ := mx_bind hT
          refine mx_callV (As := [.int (x1)]) (rest := [.int (G 247 79), .int ((79 : Int32)), .ref (mad E (247))]) (st1 := [.int (q_89), .int (G 247 79), .int ((79 : Int32)), .ref (mad E (247))]) (C := RX6) (T := TX6) (N := 11) (ci := 6) X Z hl.1 (c6_wanted l E hJ hc _ _ _ h_q_89) wd_21_19 wd_21_20 wd_21_21 wd_1_5 wd_21_22 hd6_wanted ⟨Nat.le_trans (by decide) hR.1, Nat.le_trans (by decide) hR.2⟩ ⟨Nat.zero_le _, Nat.zero_le _⟩ hc.i (hc.c _) rfl (Nat.le_of_ble_eq_true rfl) rfl rfl dX6_go_119 (fun H locs Z => ?_)
          refine lv_isub hx hb dX6_go_122 ?_
          obtain ⟨G_90, e_G_90, hT⟩ := mx_nm hT
          refine mx_iast X Z hc.z (mx_lit (by decide)) dX6_go_123 (fun H locs Z => ?_)
          replace Z : mZ E s.heap H locs (up2 G 247 79 ((G 247 79) - q_89)) := Z
          rw [e_G_90] at Z
          refine lv_aload_n hx hb dX6_go_124 rfl (lv_at hl 2 rfl) ?_
          refine lv_iload_n hx hb dX6_go_125 rfl (lv_at hl 3 rfl) ?_
          refine lv_iconst (v := (2 : Int32)) hx hb dX6_go_126 (by decide) ?_
          refine lv_aload_n hx hb dX6_go_127 rfl (lv_at hl 2 rfl) ?_
          refine lv_iload_n hx hb dX6_go_128 rfl (lv_at hl 3 rfl) ?_
          obtain ⟨q_91, h_q_91, hT⟩ := mx_bind hT
          refine mx_callV (As := [.int (x1)]) (rest := [.int ((2 : Int32)), .int (x1), .ref (mad E (246))]) (st1 := [.int (q_91), .int ((2 : Int32)), .int (x1), .ref (mad E (246))]) (C := RX6) (T := TX6) (N := 11) (ci := 6) X Z hl.1 (c6_wanted l E hJ hc _ _ _ h_q_91) wd_21_19 wd_21_20 wd_21_21 wd_1_5 wd_21_22 hd6_wanted ⟨Nat.le_trans (by decide) hR.1, Nat.le_trans (by decide) hR.2⟩ ⟨Nat.zero_le _, Nat.zero_le _⟩ hc.i (hc.c _) rfl (Nat.le_of_ble_eq_true rfl) rfl rfl dX6_go_129 (fun H locs Z => ?_)
          obtain ⟨q_92, h_q_92, hT⟩ := mx_bind hT
          refine mx_callV (As := [.int (x1), .int ((2 : Int32)), .int (q_91)]) (rest := []) (st1 := []) (C := RX6) (T := TX6) (N := 11) (ci := 6) X Z hl.1 (c6_put l E hJ hc _ _ _ _ _ h_q_92) wd_15_18 wd_15_19 wd_15_20 wd_1_5 wd_15_21 hd6_put ⟨Nat.le_trans (by decide) hR.1, Nat.le_trans (by decide) hR.2⟩ ⟨Nat.zero_le _, Nat.zero_le _⟩ hc.i (hc.c _) rfl (Nat.le_of_ble_eq_true rfl) rfl rfl dX6_go_132 (fun H locs Z => ?_)
          refine lv_aload_n hx hb dX6_go_135 rfl (lv_at hl 2 rfl) ?_
          refine lv_iload_n hx hb dX6_go_136 rfl (lv_at hl 3 rfl) ?_
          refine lv_iconst (v := (4 : Int32)) hx hb dX6_go_137 (by decide) ?_
          refine lv_iconst (v := (1 : Int32)) hx hb dX6_go_138 (by decide) ?_
          obtain ⟨q_93, h_q_93, hT⟩ := mx_bind hT
          refine mx_callV (As := [.int (x1), .int ((4 : Int32)), .int ((1 : Int32))]) (rest := []) (st1 := []) (C := RX6) (T := TX6) (N := 11) (ci := 6) X Z hl.1 (c6_put l E hJ hc _ _ _ _ _ h_q_93) wd_15_18 wd_15_19 wd_15_20 wd_1_5 wd_15_21 hd6_put ⟨Nat.le_trans (by decide) hR.1, Nat.le_trans (by decide) hR.2⟩ ⟨Nat.zero_le _, Nat.zero_le _⟩ hc.i (hc.c _) rfl (Nat.le_of_ble_eq_true rfl) rfl rfl dX6_go_139 (fun H locs Z => ?_)
          refine lv_aload_n hx hb dX6_go_142 rfl (lv_at hl 2 rfl) ?_
          refine lv_iload_n hx hb dX6_go_143 rfl (lv_at hl 3 rfl) ?_
          refine lv_iconst (v := (5 : Int32)) hx hb dX6_go_144 (by decide) ?_
          refine lv_aload_n hx hb dX6_go_145 rfl (lv_at hl 2 rfl) ?_
          refine lv_iload_n hx hb dX6_go_146 rfl (lv_at hl 3 rfl) ?_
          refine lv_iconst (v := (0 : Int32)) hx hb dX6_go_147 (by decide) ?_
          obtain ⟨q_94, h_q_94, hT⟩ := mx_bind hT
          refine mx_callV (As := [.int (x1), .int ((0 : Int32))]) (rest := [.int ((5 : Int32)), .int (x1), .ref (mad E (246))]) (st1 := [.int (q_94), .int ((5 : Int32)), .int (x1), .ref (mad E (246))]) (C := RX6) (T := TX6) (N := 11) (ci := 6) X Z hl.1 (c6_of l E hJ hc _ _ _ _ h_q_94) wd_13_11 wd_13_12 wd_13_13 wd_1_5 wd_13_14 hd6_of ⟨Nat.le_trans (by decide) hR.1, Nat.le_trans (by decide) hR.2⟩ ⟨Nat.zero_le _, Nat.zero_le _⟩ hc.i (hc.c _) rfl (Nat.le_of_ble_eq_true rfl) rfl rfl dX6_go_148 (fun H locs Z => ?_)
          obtain ⟨q_95, h_q_95, hT⟩ := mx_bind hT
          refine mx_callV (As := [.int (x1), .int ((5 : Int32)), .int (q_94)]) (rest := []) (st1 := []) (C := RX6) (T := TX6) (N := 11) (ci := 6) X Z hl.1 (c6_put l E hJ hc _ _ _ _ _ h_q_95) wd_15_18 wd_15_19 wd_15_20 wd_1_5 wd_15_21 hd6_put ⟨Nat.le_trans (by decide) hR.1, Nat.le_trans (by decide) hR.2⟩ ⟨Nat.zero_le _, Nat.zero_le _⟩ hc.i (hc.c _) rfl (Nat.le_of_ble_eq_true rfl) rfl rfl dX6_go_151 (fun H locs Z => ?_)
          refine lv_goto (tgt := 198) hx hb dX6_go_154 (by decide) ?_
          cases hT
          exact W.vret hx hb hr (fun t ht hW => mx_end Z t ht _) Z.2.2.2 dX6_go_198
    · replace hT := mx_f hT h_68
      refine lv_iload_n hx hb dX6_go_27 rfl (lv_at hl 1 rfl) ?_
      refine lv_aload_n hx hb dX6_go_28 rfl (lv_at hl 2 rfl) ?_
      refine mx_get (v := .ref (mad E (247))) (ci := 6) (C := RX6) (T := TX6) (N := 11) X Z hc.i (hc.c _) rfl inlX6 0 (by decide) wd_7_23 rfl dX6_go_29 ?_
      refine lv_bipush (v := (72 : Int32)) hx hb dX6_go_32 (by decide) ?_
      refine mx_iald X Z hc.z (mx_lit (by decide)) dX6_go_34 ?_
      refine mx_tops (s2 := [.int (G 247 72), .int (q_1)]) rfl ?_
      refine lv_iconst (v := (1 : Int32)) hx hb dX6_go_35 (by decide) ?_
      refine lv_isub hx hb dX6_go_36 ?_
      refine lv_icmp_ne (tgt := 101) hx hb dX6_go_37 (by decide) (fun h_96 => ?_) (fun h_96 => ?_)
      · replace hT := mx_f hT h_96
        refine lv_iload_n hx hb dX6_go_101 rfl (lv_at hl 0 rfl) ?_
        refine lv_if_ne (tgt := 157) hx hb dX6_go_102 (by decide) (fun h_97 => ?_) (fun h_97 => ?_)
        · replace hT := mx_f hT h_97
          refine lv_iload_n hx hb dX6_go_157 rfl (lv_at hl 0 rfl) ?_
          refine lv_if_eq (tgt := 167) hx hb dX6_go_158 (by decide) (fun h_98 => ?_) (fun h_98 => ?_)
          · replace hT := mx_t hT h_98
            refine lv_iload_n hx hb dX6_go_167 rfl (lv_at hl 1 rfl) ?_
            refine lv_iconst (v := (1 : Int32)) hx hb dX6_go_168 (by decide) ?_
            refine lv_isub hx hb dX6_go_169 ?_
            obtain ⟨v_99, e_v_99, hT⟩ := mx_nm hT
            refine mx_tops (congrArg (fun z => (.int (z) :: [] : List Value)) e_v_99) ?_
            refine lv_istore (lv' := [(4, .int (v_99)), (3, .int ((1 : Int32))), (2, .int (q_1)), (0, .ref (mad E (246))), (1, .int (x1))]) hx hb dX6_go_170 hl (by decide) rfl (fun ls hl => ?_)
            refine lv_aload_n hx hb dX6_go_172 rfl (lv_at hl 3 rfl) ?_
            refine lv_iload_n hx hb dX6_go_173 rfl (lv_at hl 4 rfl) ?_
            refine lv_iconst (v := (3 : Int32)) hx hb dX6_go_174 (by decide) ?_
            refine lv_iload hx hb dX6_go_175 (lv_at hl 0 rfl) ?_
            obtain ⟨q_100, h_q_100, hT⟩ := mx_bind hT
            refine mx_callV (As := [.int (x1), .int ((3 : Int32)), .int (v_99)]) (rest := []) (st1 := []) (C := RX6) (T := TX6) (N := 11) (ci := 6) X Z hl.1 (c6_put l E hJ hc _ _ _ _ _ h_q_100) wd_15_18 wd_15_19 wd_15_20 wd_1_5 wd_15_21 hd6_put ⟨Nat.le_trans (by decide) hR.1, Nat.le_trans (by decide) hR.2⟩ ⟨Nat.zero_le _, Nat.zero_le _⟩ hc.i (hc.c _) rfl (Nat.le_of_ble_eq_true rfl) rfl rfl dX6_go_177 (fun H locs Z => ?_)
            refine lv_aload_n hx hb dX6_go_180 rfl (lv_at hl 3 rfl) ?_
            refine lv_iload_n hx hb dX6_go_181 rfl (lv_at hl 4 rfl) ?_
            refine lv_iconst (v := (5 : Int32)) hx hb dX6_go_182 (by decide) ?_
            refine lv_iconst (v := (1 : Int32)) hx hb dX6_go_183 (by decide) ?_
            refine lv_aload_n hx hb dX6_go_184 rfl (lv_at hl 3 rfl) ?_
            refine lv_iload hx hb dX6_go_185 (lv_at hl 0 rfl) ?_
            refine lv_iconst (v := (2 : Int32)) hx hb dX6_go_187 (by decide) ?_
            obtain ⟨q_101, h_q_101, hT⟩ := mx_bind hT
            refine mx_callV (As := [.int (v_99), .int ((2 : Int32))]) (rest := [.int ((1 : Int32)), .int ((5 : Int32)), .int (x1), .ref (mad E (246))]) (st1 := [.int (q_101), .int ((1 : Int32)), .int ((5 : Int32)), .int (x1), .ref (mad E (246))]) (C := RX6) (T := TX6) (N := 11) (ci := 6) X Z hl.1 (c6_seg l E hJ hc _ _ _ _ h_q_101) wd_21_23 wd_22_0 wd_22_1 wd_1_5 wd_22_2 hd6_seg ⟨Nat.le_trans (by decide) hR.1, Nat.le_trans (by decide) hR.2⟩ ⟨Nat.zero_le _, Nat.zero_le _⟩ hc.i (hc.c _) rfl (Nat.le_of_ble_eq_true rfl) rfl rfl dX6_go_188 (fun H locs Z => ?_)
            refine lv_bipush (v := (100 : Int32)) hx hb dX6_go_191 (by decide) ?_
            refine lv_idiv hx hb dX6_go_193 (by decide) ?_
            refine lv_iadd hx hb dX6_go_194 ?_
            obtain ⟨q_102, h_q_102, hT⟩ := mx_bind hT
            refine mx_callV (As := [.int (x1), .int ((5 : Int32)), .int (((1 : Int32)) + (q_101 / ((100 : Int32))))]) (rest := []) (st1 := []) (C := RX6) (T := TX6) (N := 11) (ci := 6) X Z hl.1 (c6_put l E hJ hc _ _ _ _ _ h_q_102) wd_15_18 wd_15_19 wd_15_20 wd_1_5 wd_15_21 hd6_put ⟨Nat.le_trans (by decide) hR.1, Nat.le_trans (by decide) hR.2⟩ ⟨Nat.zero_le _, Nat.zero_le _⟩ hc.i (hc.c _) rfl (Nat.le_of_ble_eq_true rfl) rfl rfl dX6_go_195 (fun H locs Z => ?_)
            cases hT
            exact W.vret hx hb hr (fun t ht hW => mx_end Z t ht _) Z.2.2.2 dX6_go_198
          · replace hT := mx_f hT h_98
            refine lv_iload_n hx hb dX6_go_161 rfl (lv_at hl 1 rfl) ?_
            refine lv_iconst (v := (1 : Int32)) hx hb dX6_go_162 (by decide) ?_
            refine lv_iadd hx hb dX6_go_163 ?_
            refine lv_goto (tgt := 170) hx hb dX6_go_164 (by decide) ?_
            obtain ⟨v_103, e_v_103, hT⟩ := mx_nm hT
            refine mx_tops (congrArg (fun z => (.int (z) :: [] : List Value)) e_v_103) ?_
            refine lv_istore (lv' := [(4, .int (v_103)), (3, .int ((1 : Int32))), (2, .int (q_1)), (0, .ref (mad E (246))), (1, .int (x1))]) hx hb dX6_go_170 hl (by decide) rfl (fun ls hl => ?_)
            refine lv_aload_n hx hb dX6_go_172 rfl (lv_at hl 3 rfl) ?_
            refine lv_iload_n hx hb dX6_go_173 rfl (lv_at hl 4 rfl) ?_
            refine lv_iconst (v := (3 : Int32)) hx hb dX6_go_174 (by decide) ?_
            refine lv_iload hx hb dX6_go_175 (lv_at hl 0 rfl) ?_
            obtain ⟨q_104, h_q_104, hT⟩ := mx_bind hT
            refine mx_callV (As := [.int (x1), .int ((3 : Int32)), .int (v_103)]) (rest := []) (st1 := []) (C := RX6) (T := TX6) (N := 11) (ci := 6) X Z hl.1 (c6_put l E hJ hc _ _ _ _ _ h_q_104) wd_15_18 wd_15_19 wd_15_20 wd_1_5 wd_15_21 hd6_put ⟨Nat.le_trans (by decide) hR.1, Nat.le_trans (by decide) hR.2⟩ ⟨Nat.zero_le _, Nat.zero_le _⟩ hc.i (hc.c _) rfl (Nat.le_of_ble_eq_true rfl) rfl rfl dX6_go_177 (fun H locs Z => ?_)
            refine lv_aload_n hx hb dX6_go_180 rfl (lv_at hl 3 rfl) ?_
            refine lv_iload_n hx hb dX6_go_181 rfl (lv_at hl 4 rfl) ?_
            refine lv_iconst (v := (5 : Int32)) hx hb dX6_go_182 (by decide) ?_
            refine lv_iconst (v := (1 : Int32)) hx hb dX6_go_183 (by decide) ?_
            refine lv_aload_n hx hb dX6_go_184 rfl (lv_at hl 3 rfl) ?_
            refine lv_iload hx hb dX6_go_185 (lv_at hl 0 rfl) ?_
            refine lv_iconst (v := (2 : Int32)) hx hb dX6_go_187 (by decide) ?_
            obtain ⟨q_105, h_q_105, hT⟩ := mx_bind hT
            refine mx_callV (As := [.int (v_103), .int ((2 : Int32))]) (rest := [.int ((1 : Int32)), .int ((5 : Int32)), .int (x1), .ref (mad E (246))]) (st1 := [.int (q_105), .int ((1 : Int32)), .int ((5 : Int32)), .int (x1), .ref (mad E (246))]) (C := RX6) (T := TX6) (N := 11) (ci := 6) X Z hl.1 (c6_seg l E hJ hc _ _ _ _ h_q_105) wd_21_23 wd_22_0 wd_22_1 wd_1_5 wd_22_2 hd6_seg ⟨Nat.le_trans (by decide) hR.1, Nat.le_trans (by decide) hR.2⟩ ⟨Nat.zero_le _, Nat.zero_le _⟩ hc.i (hc.c _) rfl (Nat.le_of_ble_eq_true rfl) rfl rfl dX6_go_188 (fun H locs Z => ?_)
            refine lv_bipush (v := (100 : Int32)) hx hb dX6_go_191 (by decide) ?_
            refine lv_idiv hx hb dX6_go_193 (by decide) ?_
            refine lv_iadd hx hb dX6_go_194 ?_
            obtain ⟨q_106, h_q_106, hT⟩ := mx_bind hT
            refine mx_callV (As := [.int (x1), .int ((5 : Int32)), .int (((1 : Int32)) + (q_105 / ((100 : Int32))))]) (rest := []) (st1 := []) (C := RX6) (T := TX6) (N := 11) (ci := 6) X Z hl.1 (c6_put l E hJ hc _ _ _ _ _ h_q_106) wd_15_18 wd_15_19 wd_15_20 wd_1_5 wd_15_21 hd6_put ⟨Nat.le_trans (by decide) hR.1, Nat.le_trans (by decide) hR.2⟩ ⟨Nat.zero_le _, Nat.zero_le _⟩ hc.i (hc.c _) rfl (Nat.le_of_ble_eq_true rfl) rfl rfl dX6_go_195 (fun H locs Z => ?_)
            cases hT
            exact W.vret hx hb hr (fun t ht hW => mx_end Z t ht _) Z.2.2.2 dX6_go_198
        · replace hT := mx_t hT h_97
          refine lv_iload_n hx hb dX6_go_105 rfl (lv_at hl 1 rfl) ?_
          refine lv_if_ne (tgt := 157) hx hb dX6_go_106 (by decide) (fun h_107 => ?_) (fun h_107 => ?_)
          · replace hT := mx_f hT h_107
            refine lv_iload_n hx hb dX6_go_157 rfl (lv_at hl 0 rfl) ?_
            refine lv_if_eq (tgt := 167) hx hb dX6_go_158 (by decide) (fun h_108 => ?_) (fun h_108 => ?_)
            · replace hT := mx_t hT h_108
              refine lv_iload_n hx hb dX6_go_167 rfl (lv_at hl 1 rfl) ?_
              refine lv_iconst (v := (1 : Int32)) hx hb dX6_go_168 (by decide) ?_
              refine lv_isub hx hb dX6_go_169 ?_
              obtain ⟨v_109, e_v_109, hT⟩ := mx_nm hT
              refine mx_tops (congrArg (fun z => (.int (z) :: [] : List Value)) e_v_109) ?_
              refine lv_istore (lv' := [(4, .int (v_109)), (3, .int ((1 : Int32))), (2, .int (q_1)), (0, .ref (mad E (246))), (1, .int (x1))]) hx hb dX6_go_170 hl (by decide) rfl (fun ls hl => ?_)
              refine lv_aload_n hx hb dX6_go_172 rfl (lv_at hl 3 rfl) ?_
              refine lv_iload_n hx hb dX6_go_173 rfl (lv_at hl 4 rfl) ?_
              refine lv_iconst (v := (3 : Int32)) hx hb dX6_go_174 (by decide) ?_
              refine lv_iload hx hb dX6_go_175 (lv_at hl 0 rfl) ?_
              obtain ⟨q_110, h_q_110, hT⟩ := mx_bind hT
              refine mx_callV (As := [.int (x1), .int ((3 : Int32)), .int (v_109)]) (rest := []) (st1 := []) (C := RX6) (T := TX6) (N := 11) (ci := 6) X Z hl.1 (c6_put l E hJ hc _ _ _ _ _ h_q_110) wd_15_18 wd_15_19 wd_15_20 wd_1_5 wd_15_21 hd6_put ⟨Nat.le_trans (by decide) hR.1, Nat.le_trans (by decide) hR.2⟩ ⟨Nat.zero_le _, Nat.zero_le _⟩ hc.i (hc.c _) rfl (Nat.le_of_ble_eq_true rfl) rfl rfl dX6_go_177 (fun H locs Z => ?_)
              refine lv_aload_n hx hb dX6_go_180 rfl (lv_at hl 3 rfl) ?_
              refine lv_iload_n hx hb dX6_go_181 rfl (lv_at hl 4 rfl) ?_
              refine lv_iconst (v := (5 : Int32)) hx hb dX6_go_182 (by decide) ?_
              refine lv_iconst (v := (1 : Int32)) hx hb dX6_go_183 (by decide) ?_
              refine lv_aload_n hx hb dX6_go_184 rfl (lv_at hl 3 rfl) ?_
              refine lv_iload hx hb dX6_go_185 (lv_at hl 0 rfl) ?_
              refine lv_iconst (v := (2 : Int32)) hx hb dX6_go_187 (by decide) ?_
              obtain ⟨q_111, h_q_111, hT⟩ := mx_bind hT
              refine mx_callV (As := [.int (v_109), .int ((2 : Int32))]) (rest := [.int ((1 : Int32)), .int ((5 : Int32)), .int (x1), .ref (mad E (246))]) (st1 := [.int (q_111), .int ((1 : Int32)), .int ((5 : Int32)), .int (x1), .ref (mad E (246))]) (C := RX6) (T := TX6) (N := 11) (ci := 6) X Z hl.1 (c6_seg l E hJ hc _ _ _ _ h_q_111) wd_21_23 wd_22_0 wd_22_1 wd_1_5 wd_22_2 hd6_seg ⟨Nat.le_trans (by decide) hR.1, Nat.le_trans (by decide) hR.2⟩ ⟨Nat.zero_le _, Nat.zero_le _⟩ hc.i (hc.c _) rfl (Nat.le_of_ble_eq_true rfl) rfl rfl dX6_go_188 (fun H locs Z => ?_)
              refine lv_bipush (v := (100 : Int32)) hx hb dX6_go_191 (by decide) ?_
              refine lv_idiv hx hb dX6_go_193 (by decide) ?_
              refine lv_iadd hx hb dX6_go_194 ?_
              obtain ⟨q_112, h_q_112, hT⟩ := mx_bind hT
              refine mx_callV (As := [.int (x1), .int ((5 : Int32)), .int (((1 : Int32)) + (q_111 / ((100 : Int32))))]) (rest := []) (st1 := []) (C := RX6) (T := TX6) (N := 11) (ci := 6) X Z hl.1 (c6_put l E hJ hc _ _ _ _ _ h_q_112) wd_15_18 wd_15_19 wd_15_20 wd_1_5 wd_15_21 hd6_put ⟨Nat.le_trans (by decide) hR.1, Nat.le_trans (by decide) hR.2⟩ ⟨Nat.zero_le _, Nat.zero_le _⟩ hc.i (hc.c _) rfl (Nat.le_of_ble_eq_true rfl) rfl rfl dX6_go_195 (fun H locs Z => ?_)
              cases hT
              exact W.vret hx hb hr (fun t ht hW => mx_end Z t ht _) Z.2.2.2 dX6_go_198
            · replace hT := mx_f hT h_108
              refine lv_iload_n hx hb dX6_go_161 rfl (lv_at hl 1 rfl) ?_
              refine lv_iconst (v := (1 : Int32)) hx hb dX6_go_162 (by decide) ?_
              refine lv_iadd hx hb dX6_go_163 ?_
              refine lv_goto (tgt := 170) hx hb dX6_go_164 (by decide) ?_
              obtain ⟨v_113, e_v_113, hT⟩ := mx_nm hT
              refine mx_tops (congrArg (fun z => (.int (z) :: [] : List Value)) e_v_113) ?_
              refine lv_istore (lv' := [(4, .int (v_113)), (3, .int ((1 : Int32))), (2, .int (q_1)), (0, .ref (mad E (246))), (1, .int (x1))]) hx hb dX6_go_170 hl (by decide) rfl (fun ls hl => ?_)
              refine lv_aload_n hx hb dX6_go_172 rfl (lv_at hl 3 rfl) ?_
              refine lv_iload_n hx hb dX6_go_173 rfl (lv_at hl 4 rfl) ?_
              refine lv_iconst (v := (3 : Int32)) hx hb dX6_go_174 (by decide) ?_
              refine lv_iload hx hb dX6_go_175 (lv_at hl 0 rfl) ?_
              obtain ⟨q_114, h_q_114, hT⟩ := mx_bind hT
              refine mx_callV (As := [.int (x1), .int ((3 : Int32)), .int (v_113)]) (rest := []) (st1 := []) (C := RX6) (T := TX6) (N := 11) (ci := 6) X Z hl.1 (c6_put l E hJ hc _ _ _ _ _ h_q_114) wd_15_18 wd_15_19 wd_15_20 wd_1_5 wd_15_21 hd6_put ⟨Nat.le_trans (by decide) hR.1, Nat.le_trans (by decide) hR.2⟩ ⟨Nat.zero_le _, Nat.zero_le _⟩ hc.i (hc.c _) rfl (Nat.le_of_ble_eq_true rfl) rfl rfl dX6_go_177 (fun H locs Z => ?_)
              refine lv_aload_n hx hb dX6_go_180 rfl (lv_at hl 3 rfl) ?_
              refine lv_iload_n hx hb dX6_go_181 rfl (lv_at hl 4 rfl) ?_
              refine lv_iconst (v := (5 : Int32)) hx hb dX6_go_182 (by decide) ?_
              refine lv_iconst (v := (1 : Int32)) hx hb dX6_go_183 (by decide) ?_
              refine lv_aload_n hx hb dX6_go_184 rfl (lv_at hl 3 rfl) ?_
              refine lv_iload hx hb dX6_go_185 (lv_at hl 0 rfl) ?_
              refine lv_iconst (v := (2 : Int32)) hx hb dX6_go_187 (by decide) ?_
              obtain ⟨q_115, h_q_115, hT⟩ := mx_bind hT
              refine mx_callV (As := [.int (v_113), .int ((2 : Int32))]) (rest := [.int ((1 : Int32)), .int ((5 : Int32)), .int (x1), .ref (mad E (246))]) (st1 := [.int (q_115), .int ((1 : Int32)), .int ((5 : Int32)), .int (x1), .ref (mad E (246))]) (C := RX6) (T := TX6) (N := 11) (ci := 6) X Z hl.1 (c6_seg l E hJ hc _ _ _ _ h_q_115) wd_21_23 wd_22_0 wd_22_1 wd_1_5 wd_22_2 hd6_seg ⟨Nat.le_trans (by decide) hR.1, Nat.le_trans (by decide) hR.2⟩ ⟨Nat.zero_le _, Nat.zero_le _⟩ hc.i (hc.c _) rfl (Nat.le_of_ble_eq_true rfl) rfl rfl dX6_go_188 (fun H locs Z => ?_)
              refine lv_bipush (v := (100 : Int32)) hx hb dX6_go_191 (by decide) ?_
              refine lv_idiv hx hb dX6_go_193 (by decide) ?_
              refine lv_iadd hx hb dX6_go_194 ?_
              obtain ⟨q_116, h_q_116, hT⟩ := mx_bind hT
              refine mx_callV (As := [.int (x1), .int ((5 : Int32)), .int (((1 : Int32)) + (q_115 / ((100 : Int32))))]) (rest := []) (st1 := []) (C := RX6) (T := TX6) (N := 11) (ci := 6) X Z hl.1 (c6_put l E hJ hc _ _ _ _ _ h_q_116) wd_15_18 wd_15_19 wd_15_20 wd_1_5 wd_15_21 hd6_put ⟨Nat.le_trans (by decide) hR.1, Nat.le_trans (by decide) hR.2⟩ ⟨Nat.zero_le _, Nat.zero_le _⟩ hc.i (hc.c _) rfl (Nat.le_of_ble_eq_true rfl) rfl rfl dX6_go_195 (fun H locs Z => ?_)
              cases hT
              exact W.vret hx hb hr (fun t ht hW => mx_end Z t ht _) Z.2.2.2 dX6_go_198
          · replace hT := mx_t hT h_107
            refine lv_aload_n hx hb dX6_go_109 rfl (lv_at hl 2 rfl) ?_
            refine mx_get (v := .ref (mad E (247))) (ci := 6) (C := RX6) (T := TX6) (N := 11) X Z hc.i (hc.c _) rfl inlX6 0 (by decide) wd_7_23 rfl dX6_go_110 ?_
            refine lv_bipush (v := (79 : Int32)) hx hb dX6_go_113 (by decide) ?_
            refine lv_dup2_11 hx hb dX6_go_115 rfl rfl ?_
            refine mx_iald X Z hc.z (mx_lit (by decide)) dX6_go_116 ?_
            refine mx_tops (s2 := [.int (G 247 79), .int ((79 : Int32)), .ref (mad E (247))]) rfl ?_
            refine lv_aload_n hx hb dX6_go_117 rfl (lv_at hl 2 rfl) ?_
            refine lv_iload_n hx hb dX6_go_118 rfl (lv_at hl 3 rfl) ?_
            obtain ⟨q_117, h_q_117, hT⟩ := mx_bind hT
            refine mx_callV (As := [.int (x1)]) (rest := [.int (G 247 79), .int ((79 : Int32)), .ref (mad E (247))]) (st1 := [.int (q_117), .int (G 247 79), .int ((79 : Int32)), .ref (mad E (247))]) (C := RX6) (T := TX6) (N := 11) (ci := 6) X Z hl.1 (c6_wanted l E hJ hc _ _ _ h_q_117) wd_21_19 wd_21_20 wd_21_21 wd_1_5 wd_21_22 hd6_wanted ⟨Nat.le_trans (by decide) hR.1, Nat.le_trans (by decide) hR.2⟩ ⟨Nat.zero_le _, Nat.zero_le _⟩ hc.i (hc.c _) rfl (Nat.le_of_ble_eq_true rfl) rfl rfl dX6_go_119 (fun H locs Z => ?_)
            refine lv_isub hx hb dX6_go_122 ?_
            obtain ⟨G_118, e_G_118, hT⟩ := mx_nm hT
            refine mx_iast X Z hc.z (mx_lit (by decide)) dX6_go_123 (fun H locs Z => ?_)
            replace Z : mZ E s.heap H locs (up2 G 247 79 ((G 247 79) - q_117)) := Z
            rw [e_G_118] at Z
            refine lv_aload_n hx hb dX6_go_124 rfl (lv_at hl 2 rfl) ?_
            refine lv_iload_n hx hb dX6_go_125 rfl (lv_at hl 3 rfl) ?_
            refine lv_iconst (v := (2 : Int32)) hx hb dX6_go_126 (by decide) ?_
            refine lv_aload_n hx hb dX6_go_127 rfl (lv_at hl 2 rfl) ?_
            refine lv_iload_n hx hb dX6_go_128 rfl (lv_at hl 3 rfl) ?_
            obtain ⟨q_119, h_q_119, hT⟩ := mx_bind hT
            refine mx_callV (As := [.int (x1)]) (rest := [.int ((2 : Int32)), .int (x1), .ref (mad E (246))]) (st1 := [.int (q_119), .int ((2 : Int32)), .int (x1), .ref (mad E (246))]) (C := RX6) (T := TX6) (N := 11) (ci := 6) X Z hl.1 (c6_wanted l E hJ hc _ _ _ h_q_119) wd_21_19 wd_21_20 wd_21_21 wd_1_5 wd_21_22 hd6_wanted ⟨Nat.le_trans (by decide) hR.1, Nat.le_trans (by decide) hR.2⟩ ⟨Nat.zero_le _, Nat.zero_le _⟩ hc.i (hc.c _) rfl (Nat.le_of_ble_eq_true rfl) rfl rfl dX6_go_129 (fun H locs Z => ?_)
            obtain ⟨q_120, h_q_120, hT⟩ := mx_bind hT
            refine mx_callV (As := [.int (x1), .int ((2 : Int32)), .int (q_119)]) (rest := []) (st1 := []) (C := RX6) (T := TX6) (N := 11) (ci := 6) X Z hl.1 (c6_put l E hJ hc _ _ _ _ _ h_q_120) wd_15_18 wd_15_19 wd_15_20 wd_1_5 wd_15_21 hd6_put ⟨Nat.le_trans (by decide) hR.1, Nat.le_trans (by decide) hR.2⟩ ⟨Nat.zero_le _, Nat.zero_le _⟩ hc.i (hc.c _) rfl (Nat.le_of_ble_eq_true rfl) rfl rfl dX6_go_132 (fun H locs Z => ?_)
            refine lv_aload_n hx hb dX6_go_135 rfl (lv_at hl 2 rfl) ?_
            refine lv_iload_n hx hb dX6_go_136 rfl (lv_at hl 3 rfl) ?_
            refine lv_iconst (v := (4 : Int32)) hx hb dX6_go_137 (by decide) ?_
            refine lv_iconst (v := (1 : Int32)) hx hb dX6_go_138 (by decide) ?_
            obtain ⟨q_121, h_q_121, hT⟩ := mx_bind hT
            refine mx_callV (As := [.int (x1), .int ((4 : Int32)), .int ((1 : Int32))]) (rest := []) (st1 := []) (C := RX6) (T := TX6) (N := 11) (ci := 6) X Z hl.1 (c6_put l E hJ hc _ _ _ _ _ h_q_121) wd_15_18 wd_15_19 wd_15_20 wd_1_5 wd_15_21 hd6_put ⟨Nat.le_trans (by decide) hR.1, Nat.le_trans (by decide) hR.2⟩ ⟨Nat.zero_le _, Nat.zero_le _⟩ hc.i (hc.c _) rfl (Nat.le_of_ble_eq_true rfl) rfl rfl dX6_go_139 (fun H locs Z => ?_)
            refine lv_aload_n hx hb dX6_go_142 rfl (lv_at hl 2 rfl) ?_
            refine lv_iload_n hx hb dX6_go_143 rfl (lv_at hl 3 rfl) ?_
            refine lv_iconst (v := (5 : Int32)) hx hb dX6_go_144 (by decide) ?_
            refine lv_aload_n hx hb dX6_go_145 rfl (lv_at hl 2 rfl) ?_
            refine lv_iload_n hx hb dX6_go_146 rfl (lv_at hl 3 rfl) ?_
            refine lv_iconst (v := (0 : Int32)) hx hb dX6_go_147 (by decide) ?_
            obtain ⟨q_122, h_q_122, hT⟩ := mx_bind hT
            refine mx_callV (As := [.int (x1), .int ((0 : Int32))]) (rest := [.int ((5 : Int32)), .int (x1), .ref (mad E (246))]) (st1 := [.int (q_122), .int ((5 : Int32)), .int (x1), .ref (mad E (246))]) (C := RX6) (T := TX6) (N := 11) (ci := 6) X Z hl.1 (c6_of l E hJ hc _ _ _ _ h_q_122) wd_13_11 wd_13_12 wd_13_13 wd_1_5 wd_13_14 hd6_of ⟨Nat.le_trans (by decide) hR.1, Nat.le_trans (by decide) hR.2⟩ ⟨Nat.zero_le _, Nat.zero_le _⟩ hc.i (hc.c _) rfl (Nat.le_of_ble_eq_true rfl) rfl rfl dX6_go_148 (fun H locs Z => ?_)
            obtain ⟨q_123, h_q_123, hT⟩ := mx_bind hT
            refine mx_callV (As := [.int (x1), .int ((5 : Int32)), .int (q_122)]) (rest := []) (st1 := []) (C := RX6) (T := TX6) (N := 11) (ci := 6) X Z hl.1 (c6_put l E hJ hc _ _ _ _ _ h_q_123) wd_15_18 wd_15_19 wd_15_20 wd_1_5 wd_15_21 hd6_put ⟨Nat.le_trans (by decide) hR.1, Nat.le_trans (by decide) hR.2⟩ ⟨Nat.zero_le _, Nat.zero_le _⟩ hc.i (hc.c _) rfl (Nat.le_of_ble_eq_true rfl) rfl rfl dX6_go_151 (fun H locs Z => ?_)
            refine lv_goto (tgt := 198) hx hb dX6_go_154 (by decide) ?_
            cases hT
            exact W.vret hx hb hr (fun t ht hW => mx_end Z t ht _) Z.2.2.2 dX6_go_198
      · replace hT := mx_t hT h_96
        refine lv_aload_n hx hb dX6_go_40 rfl (lv_at hl 2 rfl) ?_
        refine mx_get (v := .ref (mad E (247))) (ci := 6) (C := RX6) (T := TX6) (N := 11) X Z hc.i (hc.c _) rfl inlX6 0 (by decide) wd_7_23 rfl dX6_go_41 ?_
        refine lv_bipush (v := (80 : Int32)) hx hb dX6_go_44 (by decide) ?_
        refine lv_dup2_11 hx hb dX6_go_46 rfl rfl ?_
        refine mx_iald X Z hc.z (mx_lit (by decide)) dX6_go_47 ?_
        refine mx_tops (s2 := [.int (G 247 80), .int ((80 : Int32)), .ref (mad E (247))]) rfl ?_
        refine lv_aload_n hx hb dX6_go_48 rfl (lv_at hl 2 rfl) ?_
        refine lv_iload_n hx hb dX6_go_49 rfl (lv_at hl 3 rfl) ?_
        refine lv_iconst (v := (2 : Int32)) hx hb dX6_go_50 (by decide) ?_
        obtain ⟨q_124, h_q_124, hT⟩ := mx_bind hT
        refine mx_callV (As := [.int (x1), .int ((2 : Int32))]) (rest := [.int (G 247 80), .int ((80 : Int32)), .ref (mad E (247))]) (st1 := [.int (q_124), .int (G 247 80), .int ((80 : Int32)), .ref (mad E (247))]) (C := RX6) (T := TX6) (N := 11) (ci := 6) X Z hl.1 (c6_of l E hJ hc _ _ _ _ h_q_124) wd_13_11 wd_13_12 wd_13_13 wd_1_5 wd_13_14 hd6_of ⟨Nat.le_trans (by decide) hR.1, Nat.le_trans (by decide) hR.2⟩ ⟨Nat.zero_le _, Nat.zero_le _⟩ hc.i (hc.c _) rfl (Nat.le_of_ble_eq_true rfl) rfl rfl dX6_go_51 (fun H locs Z => ?_)
        refine lv_iadd hx hb dX6_go_54 ?_
        obtain ⟨G_125, e_G_125, hT⟩ := mx_nm hT
        refine mx_iast X Z hc.z (mx_lit (by decide)) dX6_go_55 (fun H locs Z => ?_)
        replace Z : mZ E s.heap H locs (up2 G 247 80 ((G 247 80) + q_124)) := Z
        rw [e_G_125] at Z
        refine lv_aload_n hx hb dX6_go_56 rfl (lv_at hl 2 rfl) ?_
        refine lv_iload_n hx hb dX6_go_57 rfl (lv_at hl 3 rfl) ?_
        refine lv_iconst (v := (2 : Int32)) hx hb dX6_go_58 (by decide) ?_
        refine lv_iconst (v := (0 : Int32)) hx hb dX6_go_59 (by decide) ?_
        obtain ⟨q_126, h_q_126, hT⟩ := mx_bind hT
        refine mx_callV (As := [.int (x1), .int ((2 : Int32)), .int ((0 : Int32))]) (rest := []) (st1 := []) (C := RX6) (T := TX6) (N := 11) (ci := 6) X Z hl.1 (c6_put l E hJ hc _ _ _ _ _ h_q_126) wd_15_18 wd_15_19 wd_15_20 wd_1_5 wd_15_21 hd6_put ⟨Nat.le_trans (by decide) hR.1, Nat.le_trans (by decide) hR.2⟩ ⟨Nat.zero_le _, Nat.zero_le _⟩ hc.i (hc.c _) rfl (Nat.le_of_ble_eq_true rfl) rfl rfl dX6_go_60 (fun H locs Z => ?_)
        refine lv_aload_n hx hb dX6_go_63 rfl (lv_at hl 2 rfl) ?_
        refine lv_iload_n hx hb dX6_go_64 rfl (lv_at hl 3 rfl) ?_
        refine lv_iconst (v := (4 : Int32)) hx hb dX6_go_65 (by decide) ?_
        refine lv_iconst (v := (0 : Int32)) hx hb dX6_go_66 (by decide) ?_
        obtain ⟨q_127, h_q_127, hT⟩ := mx_bind hT
        refine mx_callV (As := [.int (x1), .int ((4 : Int32)), .int ((0 : Int32))]) (rest := []) (st1 := []) (C := RX6) (T := TX6) (N := 11) (ci := 6) X Z hl.1 (c6_put l E hJ hc _ _ _ _ _ h_q_127) wd_15_18 wd_15_19 wd_15_20 wd_1_5 wd_15_21 hd6_put ⟨Nat.le_trans (by decide) hR.1, Nat.le_trans (by decide) hR.2⟩ ⟨Nat.zero_le _, Nat.zero_le _⟩ hc.i (hc.c _) rfl (Nat.le_of_ble_eq_true rfl) rfl rfl dX6_go_67 (fun H locs Z => ?_)
        refine lv_aload_n hx hb dX6_go_70 rfl (lv_at hl 2 rfl) ?_
        refine lv_iload_n hx hb dX6_go_71 rfl (lv_at hl 3 rfl) ?_
        refine lv_iconst (v := (5 : Int32)) hx hb dX6_go_72 (by decide) ?_
        refine lv_aload_n hx hb dX6_go_73 rfl (lv_at hl 2 rfl) ?_
        refine lv_iload_n hx hb dX6_go_74 rfl (lv_at hl 3 rfl) ?_
        refine lv_iconst (v := (0 : Int32)) hx hb dX6_go_75 (by decide) ?_
        obtain ⟨q_128, h_q_128, hT⟩ := mx_bind hT
        refine mx_callV (As := [.int (x1), .int ((0 : Int32))]) (rest := [.int ((5 : Int32)), .int (x1), .ref (mad E (246))]) (st1 := [.int (q_128), .int ((5 : Int32)), .int (x1), .ref (mad E (246))]) (C := RX6) (T := TX6) (N := 11) (ci := 6) X Z hl.1 (c6_of l E hJ hc _ _ _ _ h_q_128) wd_13_11 wd_13_12 wd_13_13 wd_1_5 wd_13_14 hd6_of ⟨Nat.le_trans (by decide) hR.1, Nat.le_trans (by decide) hR.2⟩ ⟨Nat.zero_le _, Nat.zero_le _⟩ hc.i (hc.c _) rfl (Nat.le_of_ble_eq_true rfl) rfl rfl dX6_go_76 (fun H locs Z => ?_)
        obtain ⟨q_129, h_q_129, hT⟩ := mx_bind hT
        refine mx_callV (As := [.int (x1), .int ((5 : Int32)), .int (q_128)]) (rest := []) (st1 := []) (C := RX6) (T := TX6) (N := 11) (ci := 6) X Z hl.1 (c6_put l E hJ hc _ _ _ _ _ h_q_129) wd_15_18 wd_15_19 wd_15_20 wd_1_5 wd_15_21 hd6_put ⟨Nat.le_trans (by decide) hR.1, Nat.le_trans (by decide) hR.2⟩ ⟨Nat.zero_le _, Nat.zero_le _⟩ hc.i (hc.c _) rfl (Nat.le_of_ble_eq_true rfl) rfl rfl dX6_go_79 (fun H locs Z => ?_)
        refine lv_aload_n hx hb dX6_go_82 rfl (lv_at hl 2 rfl) ?_
        refine lv_iload_n hx hb dX6_go_83 rfl (lv_at hl 3 rfl) ?_
        refine lv_bipush (v := (8 : Int32)) hx hb dX6_go_84 (by decide) ?_
        refine lv_aload_n hx hb dX6_go_86 rfl (lv_at hl 2 rfl) ?_
        refine lv_iload_n hx hb dX6_go_87 rfl (lv_at hl 3 rfl) ?_
        refine lv_bipush (v := (8 : Int32)) hx hb dX6_go_88 (by decide) ?_
        obtain ⟨q_130, h_q_130, hT⟩ := mx_bind hT
        refine mx_callV (As := [.int (x1), .int ((8 : Int32))]) (rest := [.int ((8 : Int32)), .int (x1), .ref (mad E (246))]) (st1 := [.int (q_130), .int ((8 : Int32)), .int (x1), .ref (mad E (246))]) (C := RX6) (T := TX6) (N := 11) (ci := 6) X Z hl.1 (c6_of l E hJ hc _ _ _ _ h_q_130) wd_13_11 wd_13_12 wd_13_13 wd_1_5 wd_13_14 hd6_of ⟨Nat.le_trans (by decide) hR.1, Nat.le_trans (by decide) hR.2⟩ ⟨Nat.zero_le _, Nat.zero_le _⟩ hc.i (hc.c _) rfl (Nat.le_of_ble_eq_true rfl) rfl rfl dX6_go_90 (fun H locs Z => ?_)
        refine lv_iconst (v := (1 : Int32)) hx hb dX6_go_93 (by decide) ?_
        refine lv_iadd hx hb dX6_go_94 ?_
        obtain ⟨q_131, h_q_131, hT⟩ := mx_bind hT
        refine mx_callV (As := [.int (x1), .int ((8 : Int32)), .int (q_130 + ((1 : Int32)))]) (rest := []) (st1 := []) (C := RX6) (T := TX6) (N := 11) (ci := 6) X Z hl.1 (c6_put l E hJ hc _ _ _ _ _ h_q_131) wd_15_18 wd_15_19 wd_15_20 wd_1_5 wd_15_21 hd6_put ⟨Nat.le_trans (by decide) hR.1, Nat.le_trans (by decide) hR.2⟩ ⟨Nat.zero_le _, Nat.zero_le _⟩ hc.i (hc.c _) rfl (Nat.le_of_ble_eq_true rfl) rfl rfl dX6_go_95 (fun H locs Z => ?_)
        refine lv_goto (tgt := 198) hx hb dX6_go_98 (by decide) ?_
        cases hT
        exact W.vret hx hb hr (fun t ht hW => mx_end Z t ht _) Z.2.2.2 dX6_go_198
/-! PeatRailwayModel.turn -/
def x6_turn (x1 : Int32) (G : mM) : Option mM :=
  (x6_of x1 ((5 : Int32)) G).bind fun q_1 =>
  if q_1 ≤ 0 then
    (x6_reason x1 G).bind fun q_3 =>
    (x6_put x1 ((6 : Int32)) q_3 G).bind fun q_4 =>
    (x6_of x1 ((7 : Int32)) q_4).bind fun q_5 =>
    if q_3 ≤ 0 then
      (x6_put x1 ((7 : Int32)) (q_5 + ((0 : Int32))) q_4).bind fun q_7 =>
      if q_1 ≤ 0 then
        if q_3 = 0 then
          (x6_go x1 q_7).bind fun q_10 =>
          some (q_10)
        else
          some (q_7)
      else
        (x6_put x1 ((5 : Int32)) (q_1 - ((1 : Int32))) q_7).bind fun q_11 =>
        some (q_11)
    else
      (x6_put x1 ((7 : Int32)) (q_5 + ((1 : Int32))) q_4).bind fun q_12 =>
      if q_1 ≤ 0 then
        if q_3 = 0 then
          (x6_go x1 q_12).bind fun q_15 =>
          some (q_15)
        else
          some (q_12)
      else
        (x6_put x1 ((5 : Int32)) (q_1 - ((1 : Int32))) q_12).bind fun q_16 =>
        some (q_16)
  else
    (x6_put x1 ((6 : Int32)) ((0 : Int32)) G).bind fun q_17 =>
    (x6_of x1 ((7 : Int32)) q_17).bind fun q_18 =>
    if ((0 : Int32)) ≤ 0 then
      (x6_put x1 ((7 : Int32)) (q_18 + ((0 : Int32))) q_17).bind fun q_20 =>
      if q_1 ≤ 0 then
        if ((0 : Int32)) = 0 then
          (x6_go x1 q_20).bind fun q_23 =>
          some (q_23)
        else
          some (q_20)
      else
        (x6_put x1 ((5 : Int32)) (q_1 - ((1 : Int32))) q_20).bind fun q_24 =>
        some (q_24)
    else
      (x6_put x1 ((7 : Int32)) (q_18 + ((1 : Int32))) q_17).bind fun q_25 =>
      if q_1 ≤ 0 then
        if ((0 : Int32)) = 0 then
          (x6_go x1 q_25).bind fun q_28 =>
          some (q_28)
        else
          some (q_25)
      else
        (x6_put x1 ((5 : Int32)) (q_1 - ((1 : Int32))) q_25).bind fun q_29 =>
        some (q_29)
theorem hd6_turn : yX6_turn.cls = RX6 ∧ yX6_turn.cls ≠ "java/lang/invoke/MethodHandle" ∧ yX6_turn.cls ≠ "java/lang/invoke/VarHandle" ∧ (parseMethodDescriptor yX6_turn.desc).map (fun d => d.parameters.length) = some 1 := by decide +kernel
set_option maxHeartbeats 4000000 in
set_option maxRecDepth 100000 in
theorem c6_turn (l : Launch) (E : mE) (hJ : mJ E) (hc : mMo E 246) (x1 : Int32) (G : mM) (q : mM) (hT : x6_turn x1 G = some q) : mMet l E yX6_turn cX6_turn 4 none 4 91 [.ref (mad E (246)), .int (x1)] G (none) q := by
  refine Met.ofW (cc := cX6_turn) (maxL := 4) (ret := none) (by decide) rfl ?_
  intro p e s m args below meth cd s₁ B hml hv
  obtain ⟨rfl, hP, hK, hS⟩ := hv
  have X := mx_entry (own := RX6) B hml hK hJ hS rfl
  have hx := X.1
  have hb := X.2.1
  have hown := X.2.2.2.1
  have hts := X.2.2.2.2.1
  have hr := B.returns
  have hlocks := B.notSynchronized
  have hR : 4 ≤ (headSpec (mWs yX6_turn cX6_turn 4 none) ({ frames := 4, cells := 0, slots := 0, locals := 91 })).room.frames ∧ 91 ≤ (headSpec (mWs yX6_turn cX6_turn 4 none) ({ frames := 4, cells := 0, slots := 0, locals := 91 })).room.locals := ⟨Nat.le_refl _, Nat.le_refl _⟩
  have Z : mZ E s.heap s.heap [] G := ⟨hP, va_S.rf⟩
  have hl := lv_entry ([.ref (mad E (246)), .int (x1)]) (n := 4) (Nat.le_of_ble_eq_true rfl)
  rw [lg_entry_eq]
  generalize (lg_sl ([.ref (mad E (246)), .int (x1)]) ++ List.replicate (4 - (lg_sl ([.ref (mad E (246)), .int (x1)])).length) Slot.unset).toArray = ls at hl ⊢
  have hl : lv_has ls 4 [(0, .ref (mad E (246))), (1, .int (x1))] := hl
  unfold x6_turn at hT
  refine lv_aload_n hx hb dX6_turn_0 rfl (lv_at hl 0 rfl) ?_
  refine lv_iload_n hx hb dX6_turn_1 rfl (lv_at hl 1 rfl) ?_
  refine lv_iconst (v := (5 : Int32)) hx hb dX6_turn_2 (by decide) ?_
  obtain ⟨q_1, h_q_1, hT⟩ := mx_bind hT
  refine mx_callV (As := [.int (x1), .int ((5 : Int32))]) (rest := []) (st1 := [.int (q_1)]) (C := RX6) (T := TX6) (N := 11) (ci := 6) X Z hl.1 (c6_of l E hJ hc _ _ _ _ h_q_1) wd_13_11 wd_13_12 wd_13_13 wd_1_5 wd_13_14 hd6_of ⟨Nat.le_trans (by decide) hR.1, Nat.le_trans (by decide) hR.2⟩ ⟨Nat.zero_le _, Nat.zero_le _⟩ hc.i (hc.c _) rfl (Nat.le_of_ble_eq_true rfl) rfl rfl dX6_turn_3 (fun H locs Z => ?_)
  refine lv_istore_n (lv' := [(2, .int (q_1)), (0, .ref (mad E (246))), (1, .int (x1))]) hx hb dX6_turn_6 rfl hl (by decide) rfl (fun ls hl => ?_)
  refine lv_iload_n hx hb dX6_turn_7 rfl (lv_at hl 0 rfl) ?_
  refine lv_if_le (tgt := 15) hx hb dX6_turn_8 (by decide) (fun h_2 => ?_) (fun h_2 => ?_)
  · replace hT := mx_t hT h_2
    refine lv_aload_n hx hb dX6_turn_15 rfl (lv_at hl 1 rfl) ?_
    refine lv_iload_n hx hb dX6_turn_16 rfl (lv_at hl 2 rfl) ?_
    obtain ⟨q_3, h_q_3, hT⟩ := mx_bind hT
    refine mx_callV (As := [.int (x1)]) (rest := []) (st1 := [.int (q_3)]) (C := RX6) (T := TX6) (N := 11) (ci := 6) X Z hl.1 (c6_reason l E hJ hc _ _ _ h_q_3) wd_21_15 wd_21_16 wd_21_17 wd_1_5 wd_21_18 hd6_reason ⟨Nat.le_trans (by decide) hR.1, Nat.le_trans (by decide) hR.2⟩ ⟨Nat.zero_le _, Nat.zero_le _⟩ hc.i (hc.c _) rfl (Nat.le_of_ble_eq_true rfl) rfl rfl dX6_turn_17 (fun H locs Z => ?_)
    refine lv_istore_n (lv' := [(3, .int (q_3)), (2, .int (q_1)), (0, .ref (mad E (246))), (1, .int (x1))]) hx hb dX6_turn_20 rfl hl (by decide) rfl (fun ls hl => ?_)
    refine lv_aload_n hx hb dX6_turn_21 rfl (lv_at hl 2 rfl) ?_
    refine lv_iload_n hx hb dX6_turn_22 rfl (lv_at hl 3 rfl) ?_
    refine lv_bipush (v := (6 : Int32)) hx hb dX6_turn_23 (by decide) ?_
    refine lv_iload_n hx hb dX6_turn_25 rfl (lv_at hl 0 rfl) ?_
    obtain ⟨q_4, h_q_4, hT⟩ := mx_bind hT
    refine mx_callV (As := [.int (x1), .int ((6 : Int32)), .int (q_3)]) (rest := []) (st1 := []) (C := RX6) (T := TX6) (N := 11) (ci := 6) X Z hl.1 (c6_put l E hJ hc _ _ _ _ _ h_q_4) wd_15_18 wd_15_19 wd_15_20 wd_1_5 wd_15_21 hd6_put ⟨Nat.le_trans (by decide) hR.1, Nat.le_trans (by decide) hR.2⟩ ⟨Nat.zero_le _, Nat.zero_le _⟩ hc.i (hc.c _) rfl (Nat.le_of_ble_eq_true rfl) rfl rfl dX6_turn_26 (fun H locs Z => ?_)
    refine lv_aload_n hx hb dX6_turn_29 rfl (lv_at hl 2 rfl) ?_
    refine lv_iload_n hx hb dX6_turn_30 rfl (lv_at hl 3 rfl) ?_
    refine lv_bipush (v := (7 : Int32)) hx hb dX6_turn_31 (by decide) ?_
    refine lv_aload_n hx hb dX6_turn_33 rfl (lv_at hl 2 rfl) ?_
    refine lv_iload_n hx hb dX6_turn_34 rfl (lv_at hl 3 rfl) ?_
    refine lv_bipush (v := (7 : Int32)) hx hb dX6_turn_35 (by decide) ?_
    obtain ⟨q_5, h_q_5, hT⟩ := mx_bind hT
    refine mx_callV (As := [.int (x1), .int ((7 : Int32))]) (rest := [.int ((7 : Int32)), .int (x1), .ref (mad E (246))]) (st1 := [.int (q_5), .int ((7 : Int32)), .int (x1), .ref (mad E (246))]) (C := RX6) (T := TX6) (N := 11) (ci := 6) X Z hl.1 (c6_of l E hJ hc _ _ _ _ h_q_5) wd_13_11 wd_13_12 wd_13_13 wd_1_5 wd_13_14 hd6_of ⟨Nat.le_trans (by decide) hR.1, Nat.le_trans (by decide) hR.2⟩ ⟨Nat.zero_le _, Nat.zero_le _⟩ hc.i (hc.c _) rfl (Nat.le_of_ble_eq_true rfl) rfl rfl dX6_turn_37 (fun H locs Z => ?_)
    refine lv_iload_n hx hb dX6_turn_40 rfl (lv_at hl 0 rfl) ?_
    refine lv_if_le (tgt := 48) hx hb dX6_turn_41 (by decide) (fun h_6 => ?_) (fun h_6 => ?_)
    · replace hT := mx_t hT h_6
      refine lv_iconst (v := (0 : Int32)) hx hb dX6_turn_48 (by decide) ?_
      refine lv_iadd hx hb dX6_turn_49 ?_
      obtain ⟨q_7, h_q_7, hT⟩ := mx_bind hT
      refine mx_callV (As := [.int (x1), .int ((7 : Int32)), .int (q_5 + ((0 : Int32)))]) (rest := []) (st1 := []) (C := RX6) (T := TX6) (N := 11) (ci := 6) X Z hl.1 (c6_put l E hJ hc _ _ _ _ _ h_q_7) wd_15_18 wd_15_19 wd_15_20 wd_1_5 wd_15_21 hd6_put ⟨Nat.le_trans (by decide) hR.1, Nat.le_trans (by decide) hR.2⟩ ⟨Nat.zero_le _, Nat.zero_le _⟩ hc.i (hc.c _) rfl (Nat.le_of_ble_eq_true rfl) rfl rfl dX6_turn_50 (fun H locs Z => ?_)
      refine lv_iload_n hx hb dX6_turn_53 rfl (lv_at hl 1 rfl) ?_
      refine lv_if_le (tgt := 69) hx hb dX6_turn_54 (by decide) (fun h_8 => ?_) (fun h_8 => ?_)
      · replace hT := mx_t hT h_8
        refine lv_iload_n hx hb dX6_turn_69 rfl (lv_at hl 0 rfl) ?_
        refine lv_if_ne (tgt := 78) hx hb dX6_turn_70 (by decide) (fun h_9 => ?_) (fun h_9 => ?_)
        · replace hT := mx_f hT h_9
          cases hT
          exact W.vret hx hb hr (fun t ht hW => mx_end Z t ht _) Z.2.2.2 dX6_turn_78
        · replace hT := mx_t hT h_9
          refine lv_aload_n hx hb dX6_turn_73 rfl (lv_at hl 2 rfl) ?_
          refine lv_iload_n hx hb dX6_turn_74 rfl (lv_at hl 3 rfl) ?_
          obtain ⟨q_10, h_q_10, hT⟩ := mx_bind hT
          refine mx_callV (As := [.int (x1)]) (rest := []) (st1 := []) (C := RX6) (T := TX6) (N := 11) (ci := 6) X Z hl.1 (c6_go l E hJ hc _ _ _ h_q_10) wd_22_23 wd_23_0 wd_23_1 wd_1_5 wd_23_2 hd6_go ⟨Nat.le_trans (by decide) hR.1, Nat.le_trans (by decide) hR.2⟩ ⟨Nat.zero_le _, Nat.zero_le _⟩ hc.i (hc.c _) rfl (Nat.le_of_ble_eq_true rfl) rfl rfl dX6_turn_75 (fun H locs Z => ?_)
          cases hT
          exact W.vret hx hb hr (fun t ht hW => mx_end Z t ht _) Z.2.2.2 dX6_turn_78
      · replace hT := mx_f hT h_8
        refine lv_aload_n hx hb dX6_turn_57 rfl (lv_at hl 2 rfl) ?_
        refine lv_iload_n hx hb dX6_turn_58 rfl (lv_at hl 3 rfl) ?_
        refine lv_iconst (v := (5 : Int32)) hx hb dX6_turn_59 (by decide) ?_
        refine lv_iload_n hx hb dX6_turn_60 rfl (lv_at hl 1 rfl) ?_
        refine lv_iconst (v := (1 : Int32)) hx hb dX6_turn_61 (by decide) ?_
        refine lv_isub hx hb dX6_turn_62 ?_
        obtain ⟨q_11, h_q_11, hT⟩ := mx_bind hT
        refine mx_callV (As := [.int (x1), .int ((5 : Int32)), .int (q_1 - ((1 : Int32)))]) (rest := []) (st1 := []) (C := RX6) (T := TX6) (N := 11) (ci := 6) X Z hl.1 (c6_put l E hJ hc _ _ _ _ _ h_q_11) wd_15_18 wd_15_19 wd_15_20 wd_1_5 wd_15_21 hd6_put ⟨Nat.le_trans (by decide) hR.1, Nat.le_trans (by decide) hR.2⟩ ⟨Nat.zero_le _, Nat.zero_le _⟩ hc.i (hc.c _) rfl (Nat.le_of_ble_eq_true rfl) rfl rfl dX6_turn_63 (fun H locs Z => ?_)
        refine lv_goto (tgt := 78) hx hb dX6_turn_66 (by decide) ?_
        cases hT
        exact W.vret hx hb hr (fun t ht hW => mx_end Z t ht _) Z.2.2.2 dX6_turn_78
    · replace hT := mx_f hT h_6
      refine lv_iconst (v := (1 : Int32)) hx hb dX6_turn_44 (by decide) ?_
      refine lv_goto (tgt := 49) hx hb dX6_turn_45 (by decide) ?_
      refine lv_iadd hx hb dX6_turn_49 ?_
      obtain ⟨q_12, h_q_12, hT⟩ := mx_bind hT
      refine mx_callV (As := [.int (x1), .int ((7 : Int32)), .int (q_5 + ((1 : Int32)))]) (rest := []) (st1 := []) (C := RX6) (T := TX6) (N := 11) (ci := 6) X Z hl.1 (c6_put l E hJ hc _ _ _ _ _ h_q_12) wd_15_18 wd_15_19 wd_15_20 wd_1_5 wd_15_21 hd6_put ⟨Nat.le_trans (by decide) hR.1, Nat.le_trans (by decide) hR.2⟩ ⟨Nat.zero_le _, Nat.zero_le _⟩ hc.i (hc.c _) rfl (Nat.le_of_ble_eq_true rfl) rfl rfl dX6_turn_50 (fun H locs Z => ?_)
      refine lv_iload_n hx hb dX6_turn_53 rfl (lv_at hl 1 rfl) ?_
      refine lv_if_le (tgt := 69) hx hb dX6_turn_54 (by decide) (fun h_13 => ?_) (fun h_13 => ?_)
      · replace hT := mx_t hT h_13
        refine lv_iload_n hx hb dX6_turn_69 rfl (lv_at hl 0 rfl) ?_
        refine lv_if_ne (tgt := 78) hx hb dX6_turn_70 (by decide) (fun h_14 => ?_) (fun h_14 => ?_)
        · replace hT := mx_f hT h_14
          cases hT
          exact W.vret hx hb hr (fun t ht hW => mx_end Z t ht _) Z.2.2.2 dX6_turn_78
        · replace hT := mx_t hT h_14
          refine lv_aload_n hx hb dX6_turn_73 rfl (lv_at hl 2 rfl) ?_
          refine lv_iload_n hx hb dX6_turn_74 rfl (lv_at hl 3 rfl) ?_
          obtain ⟨q_15, h_q_15, hT⟩ := mx_bind hT
          refine mx_callV (As := [.int (x1)]) (rest := []) (st1 := []) (C := RX6) (T := TX6) (N := 11) (ci := 6) X Z hl.1 (c6_go l E hJ hc _ _ _ h_q_15) wd_22_23 wd_23_0 wd_23_1 wd_1_5 wd_23_2 hd6_go ⟨Nat.le_trans (by decide) hR.1, Nat.le_trans (by decide) hR.2⟩ ⟨Nat.zero_le _, Nat.zero_le _⟩ hc.i (hc.c _) rfl (Nat.le_of_ble_eq_true rfl) rfl rfl dX6_turn_75 (fun H locs Z => ?_)
          cases hT
          exact W.vret hx hb hr (fun t ht hW => mx_end Z t ht _) Z.2.2.2 dX6_turn_78
      · replace hT := mx_f hT h_13
        refine lv_aload_n hx hb dX6_turn_57 rfl (lv_at hl 2 rfl) ?_
        refine lv_iload_n hx hb dX6_turn_58 rfl (lv_at hl 3 rfl) ?_
        refine lv_iconst (v := (5 : Int32)) hx hb dX6_turn_59 (by decide) ?_
        refine lv_iload_n hx hb dX6_turn_60 rfl (lv_at hl 1 rfl) ?_
        refine lv_iconst (v := (1 : Int32)) hx hb dX6_turn_61 (by decide) ?_
        refine lv_isub hx hb dX6_turn_62 ?_
        obtain ⟨q_16, h_q_16, hT⟩ := mx_bind hT
        refine mx_callV (As := [.int (x1), .int ((5 : Int32)), .int (q_1 - ((1 : Int32)))]) (rest := []) (st1 := []) (C := RX6) (T := TX6) (N := 11) (ci := 6) X Z hl.1 (c6_put l E hJ hc _ _ _ _ _ h_q_16) wd_15_18 wd_15_19 wd_15_20 wd_1_5 wd_15_21 hd6_put ⟨Nat.le_trans (by decide) hR.1, Nat.le_trans (by decide) hR.2⟩ ⟨Nat.zero_le _, Nat.zero_le _⟩ hc.i (hc.c _) rfl (Nat.le_of_ble_eq_true rfl) rfl rfl dX6_turn_63 (fun H locs Z => ?_)
        refine lv_goto (tgt := 78) hx hb dX6_turn_66 (by decide) ?_
        cases hT
        exact W.vret hx hb hr (fun t ht hW => mx_end Z t ht _) Z.2.2.2 dX6_turn_78
  · replace hT := mx_f hT h_2
    refine lv_iconst (v := (0 : Int32)) hx hb dX6_turn_11 (by decide) ?_
    refine lv_goto (tgt := 20) hx hb dX6_turn_12 (by decide) ?_
    refine lv_istore_n (lv' := [(3, .int ((0 : Int32))), (2, .int (q_1)), (0, .ref (mad E (246))), (1, .int (x1))]) hx hb dX6_turn_20 rfl hl (by decide) rfl (fun ls hl => ?_)
    refine lv_aload_n hx hb dX6_turn_21 rfl (lv_at hl 2 rfl) ?_
    refine lv_iload_n hx hb dX6_turn_22 rfl (lv_at hl 3 rfl) ?_
    refine lv_bipush (v := (6 : Int32)) hx hb dX6_turn_23 (by decide) ?_
    refine lv_iload_n hx hb dX6_turn_25 rfl (lv_at hl 0 rfl) ?_
    obtain ⟨q_17, h_q_17, hT⟩ := mx_bind hT
    refine mx_callV (As := [.int (x1), .int ((6 : Int32)), .int ((0 : Int32))]) (rest := []) (st1 := []) (C := RX6) (T := TX6) (N := 11) (ci := 6) X Z hl.1 (c6_put l E hJ hc _ _ _ _ _ h_q_17) wd_15_18 wd_15_19 wd_15_20 wd_1_5 wd_15_21 hd6_put ⟨Nat.le_trans (by decide) hR.1, Nat.le_trans (by decide) hR.2⟩ ⟨Nat.zero_le _, Nat.zero_le _⟩ hc.i (hc.c _) rfl (Nat.le_of_ble_eq_true rfl) rfl rfl dX6_turn_26 (fun H locs Z => ?_)
    refine lv_aload_n hx hb dX6_turn_29 rfl (lv_at hl 2 rfl) ?_
    refine lv_iload_n hx hb dX6_turn_30 rfl (lv_at hl 3 rfl) ?_
    refine lv_bipush (v := (7 : Int32)) hx hb dX6_turn_31 (by decide) ?_
    refine lv_aload_n hx hb dX6_turn_33 rfl (lv_at hl 2 rfl) ?_
    refine lv_iload_n hx hb dX6_turn_34 rfl (lv_at hl 3 rfl) ?_
    refine lv_bipush (v := (7 : Int32)) hx hb dX6_turn_35 (by decide) ?_
    obtain ⟨q_18, h_q_18, hT⟩ := mx_bind hT
    refine mx_callV (As := [.int (x1), .int ((7 : Int32))]) (rest := [.int ((7 : Int32)), .int (x1), .ref (mad E (246))]) (st1 := [.int (q_18), .int ((7 : Int32)), .int (x1), .ref (mad E (246))]) (C := RX6) (T := TX6) (N := 11) (ci := 6) X Z hl.1 (c6_of l E hJ hc _ _ _ _ h_q_18) wd_13_11 wd_13_12 wd_13_13 wd_1_5 wd_13_14 hd6_of ⟨Nat.le_trans (by decide) hR.1, Nat.le_trans (by decide) hR.2⟩ ⟨Nat.zero_le _, Nat.zero_le _⟩ hc.i (hc.c _) rfl (Nat.le_of_ble_eq_true rfl) rfl rfl dX6_turn_37 (fun H locs Z => ?_)
    refine lv_iload_n hx hb dX6_turn_40 rfl (lv_at hl 0 rfl) ?_
    refine lv_if_le (tgt := 48) hx hb dX6_turn_41 (by decide) (fun h_19 => ?_) (fun h_19 => ?_)
    · replace hT := mx_t hT h_19
      refine lv_iconst (v := (0 : Int32)) hx hb dX6_turn_48 (by decide) ?_
      refine lv_iadd hx hb dX6_turn_49 ?_
      obtain ⟨q_20, h_q_20, hT⟩ := mx_bind hT
      refine mx_callV (As := [.int (x1), .int ((7 : Int32)), .int (q_18 + ((0 : Int32)))]) (rest := []) (st1 := []) (C := RX6) (T := TX6) (N := 11) (ci := 6) X Z hl.1 (c6_put l E hJ hc _ _ _ _ _ h_q_20) wd_15_18 wd_15_19 wd_15_20 wd_1_5 wd_15_21 hd6_put ⟨Nat.le_trans (by decide) hR.1, Nat.le_trans (by decide) hR.2⟩ ⟨Nat.zero_le _, Nat.zero_le _⟩ hc.i (hc.c _) rfl (Nat.le_of_ble_eq_true rfl) rfl rfl dX6_turn_50 (fun H locs Z => ?_)
      refine lv_iload_n hx hb dX6_turn_53 rfl (lv_at hl 1 rfl) ?_
      refine lv_if_le (tgt := 69) hx hb dX6_turn_54 (by decide) (fun h_21 => ?_) (fun h_21 => ?_)
      · replace hT := mx_t hT h_21
        refine lv_iload_n hx hb dX6_turn_69 rfl (lv_at hl 0 rfl) ?_
        refine lv_if_ne (tgt := 78) hx hb dX6_turn_70 (by decide) (fun h_22 => ?_) (fun h_22 => ?_)
        · replace hT := mx_f hT h_22
          cases hT
          exact W.vret hx hb hr (fun t ht hW => mx_end Z t ht _) Z.2.2.2 dX6_turn_78
        · replace hT := mx_t hT h_22
          refine lv_aload_n hx hb dX6_turn_73 rfl (lv_at hl 2 rfl) ?_
          refine lv_iload_n hx hb dX6_turn_74 rfl (lv_at hl 3 rfl) ?_
          obtain ⟨q_23, h_q_23, hT⟩ := mx_bind hT
          refine mx_callV (As := [.int (x1)]) (rest := []) (st1 := []) (C := RX6) (T := TX6) (N := 11) (ci := 6) X Z hl.1 (c6_go l E hJ hc _ _ _ h_q_23) wd_22_23 wd_23_0 wd_23_1 wd_1_5 wd_23_2 hd6_go ⟨Nat.le_trans (by decide) hR.1, Nat.le_trans (by decide) hR.2⟩ ⟨Nat.zero_le _, Nat.zero_le _⟩ hc.i (hc.c _) rfl (Nat.le_of_ble_eq_true rfl) rfl rfl dX6_turn_75 (fun H locs Z => ?_)
          cases hT
          exact W.vret hx hb hr (fun t ht hW => mx_end Z t ht _) Z.2.2.2 dX6_turn_78
      · replace hT := mx_f hT h_21
        refine lv_aload_n hx hb dX6_turn_57 rfl (lv_at hl 2 rfl) ?_
        refine lv_iload_n hx hb dX6_turn_58 rfl (lv_at hl 3 rfl) ?_
        refine lv_iconst (v := (5 : Int32)) hx hb dX6_turn_59 (by decide) ?_
        refine lv_iload_n hx hb dX6_turn_60 rfl (lv_at hl 1 rfl) ?_
        refine lv_iconst (v := (1 : Int32)) hx hb dX6_turn_61 (by decide) ?_
        refine lv_isub hx hb dX6_turn_62 ?_
        obtain ⟨q_24, h_q_24, hT⟩ := mx_bind hT
        refine mx_callV (As := [.int (x1), .int ((5 : Int32)), .int (q_1 - ((1 : Int32)))]) (rest := []) (st1 := []) (C := RX6) (T := TX6) (N := 11) (ci := 6) X Z hl.1 (c6_put l E hJ hc _ _ _ _ _ h_q_24) wd_15_18 wd_15_19 wd_15_20 wd_1_5 wd_15_21 hd6_put ⟨Nat.le_trans (by decide) hR.1, Nat.le_trans (by decide) hR.2⟩ ⟨Nat.zero_le _, Nat.zero_le _⟩ hc.i (hc.c _) rfl (Nat.le_of_ble_eq_true rfl) rfl rfl dX6_turn_63 (fun H locs Z => ?_)
        refine lv_goto (tgt := 78) hx hb dX6_turn_66 (by decide) ?_
        cases hT
        exact W.vret hx hb hr (fun t ht hW => mx_end Z t ht _) Z.2.2.2 dX6_turn_78
    · replace hT := mx_f hT h_19
      refine lv_iconst (v := (1 : Int32)) hx hb dX6_turn_44 (by decide) ?_
      refine lv_goto (tgt := 49) hx hb dX6_turn_45 (by decide) ?_
      refine lv_iadd hx hb dX6_turn_49 ?_
      obtain ⟨q_25, h_q_25, hT⟩ := mx_bind hT
      refine mx_callV (As := [.int (x1), .int ((7 : Int32)), .int (q_18 + ((1 : Int32)))]) (rest := []) (st1 := []) (C := RX6) (T := TX6) (N := 11) (ci := 6) X Z hl.1 (c6_put l E hJ hc _ _ _ _ _ h_q_25) wd_15_18 wd_15_19 wd_15_20 wd_1_5 wd_15_21 hd6_put ⟨Nat.le_trans (by decide) hR.1, Nat.le_trans (by decide) hR.2⟩ ⟨Nat.zero_le _, Nat.zero_le _⟩ hc.i (hc.c _) rfl (Nat.le_of_ble_eq_true rfl) rfl rfl dX6_turn_50 (fun H locs Z => ?_)
      refine lv_iload_n hx hb dX6_turn_53 rfl (lv_at hl 1 rfl) ?_
      refine lv_if_le (tgt := 69) hx hb dX6_turn_54 (by decide) (fun h_26 => ?_) (fun h_26 => ?_)
      · replace hT := mx_t hT h_26
        refine lv_iload_n hx hb dX6_turn_69 rfl (lv_at hl 0 rfl) ?_
        refine lv_if_ne (tgt := 78) hx hb dX6_turn_70 (by decide) (fun h_27 => ?_) (fun h_27 => ?_)
        · replace hT := mx_f hT h_27
          cases hT
          exact W.vret hx hb hr (fun t ht hW => mx_end Z t ht _) Z.2.2.2 dX6_turn_78
        · replace hT := mx_t hT h_27
          refine lv_aload_n hx hb dX6_turn_73 rfl (lv_at hl 2 rfl) ?_
          refine lv_iload_n hx hb dX6_turn_74 rfl (lv_at hl 3 rfl) ?_
          obtain ⟨q_28, h_q_28, hT⟩ := mx_bind hT
          refine mx_callV (As := [.int (x1)]) (rest := []) (st1 := []) (C := RX6) (T := TX6) (N := 11) (ci := 6) X Z hl.1 (c6_go l E hJ hc _ _ _ h_q_28) wd_22_23 wd_23_0 wd_23_1 wd_1_5 wd_23_2 hd6_go ⟨Nat.le_trans (by decide) hR.1, Nat.le_trans (by decide) hR.2⟩ ⟨Nat.zero_le _, Nat.zero_le _⟩ hc.i (hc.c _) rfl (Nat.le_of_ble_eq_true rfl) rfl rfl dX6_turn_75 (fun H locs Z => ?_)
          cases hT
          exact W.vret hx hb hr (fun t ht hW => mx_end Z t ht _) Z.2.2.2 dX6_turn_78
      · replace hT := mx_f hT h_26
        refine lv_aload_n hx hb dX6_turn_57 rfl (lv_at hl 2 rfl) ?_
        refine lv_iload_n hx hb dX6_turn_58 rfl (lv_at hl 3 rfl) ?_
        refine lv_iconst (v := (5 : Int32)) hx hb dX6_turn_59 (by decide) ?_
        refine lv_iload_n hx hb dX6_turn_60 rfl (lv_at hl 1 rfl) ?_
        refine lv_iconst (v := (1 : Int32)) hx hb dX6_turn_61 (by decide) ?_
        refine lv_isub hx hb dX6_turn_62 ?_
        obtain ⟨q_29, h_q_29, hT⟩ := mx_bind hT
        refine mx_callV (As := [.int (x1), .int ((5 : Int32)), .int (q_1 - ((1 : Int32)))]) (rest := []) (st1 := []) (C := RX6) (T := TX6) (N := 11) (ci := 6) X Z hl.1 (c6_put l E hJ hc _ _ _ _ _ h_q_29) wd_15_18 wd_15_19 wd_15_20 wd_1_5 wd_15_21 hd6_put ⟨Nat.le_trans (by decide) hR.1, Nat.le_trans (by decide) hR.2⟩ ⟨Nat.zero_le _, Nat.zero_le _⟩ hc.i (hc.c _) rfl (Nat.le_of_ble_eq_true rfl) rfl rfl dX6_turn_63 (fun H locs Z => ?_)
        refine lv_goto (tgt := 78) hx hb dX6_turn_66 (by decide) ?_
        cases hT
        exact W.vret hx hb hr (fun t ht hW => mx_end Z t ht _) Z.2.2.2 dX6_turn_78
/-! PeatRailwayModel.sink -/
def x6_sink_L2 : Nat → Int32 → mM → Option (mM)
  | 0, _, _ => none
  | n + 1, w1, G =>
    if (G 247 72) ≤ w1 then
      some (G)
    else
      (x6_seg w1 ((2 : Int32)) G).bind fun q_2 =>
      (x6_trainsIn w1 G).bind fun q_3 =>
      if q_3 = 0 then
        (x6_other ((1 : Int32)) G).bind fun q_20 =>
        mNm (-q_20) fun v_21 =>
        mNm (q_2 + v_21) fun v_22 =>
        if 0 ≤ v_22 then
          if v_22 ≤ ((999 : Int32)) then
            mCk (mIn ((((0 : Int32)) + (((3 : Int32)) * w1)) + ((2 : Int32))) 82) <|
            mNm (up2 G 247 (((((0 : Int32)) + (((3 : Int32)) * w1)) + ((2 : Int32))).toNatClampNeg) v_22) fun G_26 =>
            mNm (w1 + (1 : Int32)) fun v_27 =>
            x6_sink_L2 n v_27 G_26
          else
            mCk (mIn ((((0 : Int32)) + (((3 : Int32)) * w1)) + ((2 : Int32))) 82) <|
            mNm (up2 G 247 (((((0 : Int32)) + (((3 : Int32)) * w1)) + ((2 : Int32))).toNatClampNeg) ((999 : Int32))) fun G_29 =>
            mNm (w1 + (1 : Int32)) fun v_30 =>
            x6_sink_L2 n v_30 G_29
        else
          mCk (mIn ((((0 : Int32)) + (((3 : Int32)) * w1)) + ((2 : Int32))) 82) <|
          mNm (up2 G 247 (((((0 : Int32)) + (((3 : Int32)) * w1)) + ((2 : Int32))).toNatClampNeg) ((0 : Int32))) fun G_32 =>
          mNm (w1 + (1 : Int32)) fun v_33 =>
          x6_sink_L2 n v_33 G_32
      else
        (x6_weightIn w1 G).bind fun q_5 =>
        (x6_seg w1 ((0 : Int32)) G).bind fun q_6 =>
        mNm ((q_5 * q_6) / ((10 : Int32))) fun v_7 =>
        mNm (q_2 + v_7) fun v_8 =>
        if 0 ≤ v_8 then
          if v_8 ≤ ((999 : Int32)) then
            mCk (mIn ((((0 : Int32)) + (((3 : Int32)) * w1)) + ((2 : Int32))) 82) <|
            mNm (up2 G 247 (((((0 : Int32)) + (((3 : Int32)) * w1)) + ((2 : Int32))).toNatClampNeg) v_8) fun G_12 =>
            mNm (w1 + (1 : Int32)) fun v_13 =>
            x6_sink_L2 n v_13 G_12
          else
            mCk (mIn ((((0 : Int32)) + (((3 : Int32)) * w1)) + ((2 : Int32))) 82) <|
            mNm (up2 G 247 (((((0 : Int32)) + (((3 : Int32)) * w1)) + ((2 : Int32))).toNatClampNeg) ((999 : Int32))) fun G_15 =>
            mNm (w1 + (1 : Int32)) fun v_16 =>
            x6_sink_L2 n v_16 G_15
        else
          mCk (mIn ((((0 : Int32)) + (((3 : Int32)) * w1)) + ((2 : Int32))) 82) <|
          mNm (up2 G 247 (((((0 : Int32)) + (((3 : Int32)) * w1)) + ((2 : Int32))).toNatClampNeg) ((0 : Int32))) fun G_18 =>
          mNm (w1 + (1 : Int32)) fun v_19 =>
          x6_sink_L2 n v_19 G_18
def x6_sink (G : mM) : Option mM :=
  (x6_sink_L2 mFu ((0 : Int32)) G).bind fun q_34 =>
  some (q_34)
theorem hd6_sink : yX6_sink.cls = RX6 ∧ yX6_sink.cls ≠ "java/lang/invoke/MethodHandle" ∧ yX6_sink.cls ≠ "java/lang/invoke/VarHandle" ∧ (parseMethodDescriptor yX6_sink.desc).map (fun d => d.parameters.length) = some 0 := by decide +kernel
set_option maxHeartbeats 4000000 in
set_option maxRecDepth 100000 in
theorem k6_sink_2 {p : Program} {l : Launch} {e : Env} {R : Room} {s : State} {m : MethodId} {args : Array Value} {below : List Frame} {meth : Method} {cd : Code} {Q : State → Prop} {E : mE} (X : mX p s m args cd cX6_sink 5 RX6 E) (hR : 3 ≤ R.frames ∧ 66 ≤ R.locals) (hJ : mJ E) (hy0 : mMo E 246) : ∀ (n : Nat) (w1 : Int32) (G : mM) (H : Heap) (locs : List Loc) (ls : Array Slot) (r : mM), x6_sink_L2 n w1 G = some r → mZ E s.heap H locs G → lv_has ls 5 [(0, .ref (mad E (246))), (1, .int (w1))] → (∀ (H : Heap) (locs : List Loc) (ls : Array Slot), mZ E s.heap H locs r → lv_has ls 5 [(0, .ref (mad E (246)))] → W p l e R s m args below meth cd H locs 0 0 Q (F0 m 101 ls [])) → W p l e R s m args below meth cd H locs 0 0 Q (F0 m 2 ls []) := by
  have hx := X.1
  have hb := X.2.1
  have hown := X.2.2.2.1
  have hts := X.2.2.2.2.1
  intro n
  induction n with
  | zero =>
    intro w1 G H locs ls r hT
    rw [x6_sink_L2] at hT
    cases hT
  | succ n ih =>
    intro w1 G H locs ls r hT Z hl k0
    rw [x6_sink_L2] at hT
    refine lv_iload_n hx hb dX6_sink_2 rfl (lv_at hl 1 rfl) ?_
    refine lv_aload_n hx hb dX6_sink_3 rfl (lv_at hl 0 rfl) ?_
    refine mx_get (v := .ref (mad E (247))) (ci := 6) (C := RX6) (T := TX6) (N := 11) X Z hy0.i (hy0.c _) rfl inlX6 0 (by decide) wd_7_23 rfl dX6_sink_4 ?_
    refine lv_bipush (v := (72 : Int32)) hx hb dX6_sink_7 (by decide) ?_
    refine mx_iald X Z hy0.z (mx_lit (by decide)) dX6_sink_9 ?_
    refine mx_tops (s2 := [.int (G 247 72), .int (w1)]) rfl ?_
    refine lv_icmp_ge (tgt := 101) hx hb dX6_sink_10 (by decide) (fun h_1 => ?_) (fun h_1 => ?_)
    · replace hT := mx_t hT h_1
      cases hT
      exact k0 _ _ _ Z (lv_sub hl [0] rfl)
    · replace hT := mx_f hT h_1
      refine lv_aload_n hx hb dX6_sink_13 rfl (lv_at hl 0 rfl) ?_
      refine lv_iload_n hx hb dX6_sink_14 rfl (lv_at hl 1 rfl) ?_
      refine lv_iconst (v := (2 : Int32)) hx hb dX6_sink_15 (by decide) ?_
      obtain ⟨q_2, h_q_2, hT⟩ := mx_bind hT
      refine mx_callV (As := [.int (w1), .int ((2 : Int32))]) (rest := []) (st1 := [.int (q_2)]) (C := RX6) (T := TX6) (N := 11) (ci := 6) X Z hl.1 (c6_seg l E hJ hy0 _ _ _ _ h_q_2) wd_21_23 wd_22_0 wd_22_1 wd_1_5 wd_22_2 hd6_seg ⟨Nat.le_trans (by decide) hR.1, Nat.le_trans (by decide) hR.2⟩ ⟨Nat.zero_le _, Nat.zero_le _⟩ hy0.i (hy0.c _) rfl (Nat.le_of_ble_eq_true rfl) rfl rfl dX6_sink_16 (fun H locs Z => ?_)
      refine lv_istore_n (lv' := [(2, .int (q_2)), (0, .ref (mad E (246))), (1, .int (w1))]) hx hb dX6_sink_19 rfl hl (by decide) rfl (fun ls hl => ?_)
      refine lv_aload_n hx hb dX6_sink_20 rfl (lv_at hl 1 rfl) ?_
      refine lv_iload_n hx hb dX6_sink_21 rfl (lv_at hl 2 rfl) ?_
      obtain ⟨q_3, h_q_3, hT⟩ := mx_bind hT
      refine mx_callV (As := [.int (w1)]) (rest := []) (st1 := [.int (q_3)]) (C := RX6) (T := TX6) (N := 11) (ci := 6) X Z hl.1 (c6_trainsIn l E hJ hy0 _ _ _ h_q_3) wd_22_3 wd_22_4 wd_22_5 wd_1_5 wd_22_6 hd6_trainsIn ⟨Nat.le_trans (by decide) hR.1, Nat.le_trans (by decide) hR.2⟩ ⟨Nat.zero_le _, Nat.zero_le _⟩ hy0.i (hy0.c _) rfl (Nat.le_of_ble_eq_true rfl) rfl rfl dX6_sink_22 (fun H locs Z => ?_)
      refine lv_if_ne (tgt := 37) hx hb dX6_sink_25 (by decide) (fun h_4 => ?_) (fun h_4 => ?_)
      · replace hT := mx_f hT h_4
        refine lv_aload_n hx hb dX6_sink_37 rfl (lv_at hl 1 rfl) ?_
        refine lv_iload_n hx hb dX6_sink_38 rfl (lv_at hl 2 rfl) ?_
        obtain ⟨q_5, h_q_5, hT⟩ := mx_bind hT
        refine mx_callV (As := [.int (w1)]) (rest := []) (st1 := [.int (q_5)]) (C := RX6) (T := TX6) (N := 11) (ci := 6) X Z hl.1 (c6_weightIn l E hJ hy0 _ _ _ h_q_5) wd_23_7 wd_23_8 wd_23_9 wd_1_5 wd_23_10 hd6_weightIn ⟨Nat.le_trans (by decide) hR.1, Nat.le_trans (by decide) hR.2⟩ ⟨Nat.zero_le _, Nat.zero_le _⟩ hy0.i (hy0.c _) rfl (Nat.le_of_ble_eq_true rfl) rfl rfl dX6_sink_39 (fun H locs Z => ?_)
        refine lv_aload_n hx hb dX6_sink_42 rfl (lv_at hl 1 rfl) ?_
        refine lv_iload_n hx hb dX6_sink_43 rfl (lv_at hl 2 rfl) ?_
        refine lv_iconst (v := (0 : Int32)) hx hb dX6_sink_44 (by decide) ?_
        obtain ⟨q_6, h_q_6, hT⟩ := mx_bind hT
        refine mx_callV (As := [.int (w1), .int ((0 : Int32))]) (rest := [.int (q_5)]) (st1 := [.int (q_6), .int (q_5)]) (C := RX6) (T := TX6) (N := 11) (ci := 6) X Z hl.1 (c6_seg l E hJ hy0 _ _ _ _ h_q_6) wd_21_23 wd_22_0 wd_22_1 wd_1_5 wd_22_2 hd6_seg ⟨Nat.le_trans (by decide) hR.1, Nat.le_trans (by decide) hR.2⟩ ⟨Nat.zero_le _, Nat.zero_le _⟩ hy0.i (hy0.c _) rfl (Nat.le_of_ble_eq_true rfl) rfl rfl dX6_sink_45 (fun H locs Z => ?_)
        refine lv_imul hx hb dX6_sink_48 ?_
        refine lv_bipush (v := (10 : Int32)) hx hb dX6_sink_49 (by decide) ?_
        refine lv_idiv hx hb dX6_sink_51 (by decide) ?_
        obtain ⟨v_7, e_v_7, hT⟩ := mx_nm hT
        refine mx_tops (congrArg (fun z => (.int (z) :: [] : List Value)) e_v_7) ?_
        refine lv_istore_n (lv' := [(3, .int (v_7)), (2, .int (q_2)), (0, .ref (mad E (246))), (1, .int (w1))]) hx hb dX6_sink_52 rfl hl (by decide) rfl (fun ls hl => ?_)
        refine lv_iload_n hx hb dX6_sink_53 rfl (lv_at hl 1 rfl) ?_
        refine lv_iload_n hx hb dX6_sink_54 rfl (lv_at hl 0 rfl) ?_
        refine lv_iadd hx hb dX6_sink_55 ?_
        obtain ⟨v_8, e_v_8, hT⟩ := mx_nm hT
        refine mx_tops (congrArg (fun z => (.int (z) :: [] : List Value)) e_v_8) ?_
        refine lv_istore (lv' := [(4, .int (v_8)), (3, .int (v_7)), (2, .int (q_2)), (0, .ref (mad E (246))), (1, .int (w1))]) hx hb dX6_sink_56 hl (by decide) rfl (fun ls hl => ?_)
        refine lv_aload_n hx hb dX6_sink_58 rfl (lv_at hl 3 rfl) ?_
        refine mx_get (v := .ref (mad E (247))) (ci := 6) (C := RX6) (T := TX6) (N := 11) X Z hy0.i (hy0.c _) rfl inlX6 0 (by decide) wd_7_23 rfl dX6_sink_59 ?_
        refine lv_iconst (v := (0 : Int32)) hx hb dX6_sink_62 (by decide) ?_
        refine lv_iconst (v := (3 : Int32)) hx hb dX6_sink_63 (by decide) ?_
        refine lv_iload_n hx hb dX6_sink_64 rfl (lv_at hl 4 rfl) ?_
        refine lv_imul hx hb dX6_sink_65 ?_
        refine lv_iadd hx hb dX6_sink_66 ?_
        refine lv_iconst (v := (2 : Int32)) hx hb dX6_sink_67 (by decide) ?_
        refine lv_iadd hx hb dX6_sink_68 ?_
        refine lv_iload hx hb dX6_sink_69 (lv_at hl 0 rfl) ?_
        refine lv_if_ge (tgt := 78) hx hb dX6_sink_71 (by decide) (fun h_9 => ?_) (fun h_9 => ?_)
        · replace hT := mx_t hT h_9
          refine lv_iload hx hb dX6_sink_78 (lv_at hl 0 rfl) ?_
          refine lv_sipush (v := (999 : Int32)) hx hb dX6_sink_80 (by decide) ?_
          refine lv_icmp_le (tgt := 92) hx hb dX6_sink_83 (by decide) (fun h_10 => ?_) (fun h_10 => ?_)
          · replace hT := mx_t hT h_10
            refine lv_iload hx hb dX6_sink_92 (lv_at hl 0 rfl) ?_
            obtain ⟨h_11, hT⟩ := mx_chk hT
            obtain ⟨G_12, e_G_12, hT⟩ := mx_nm hT
            refine mx_iast X Z hy0.z h_11 dX6_sink_94 (fun H locs Z => ?_)
            rw [e_G_12] at Z
            obtain ⟨v_13, e_v_13, hT⟩ := mx_nm hT
            refine lv_iinc (v := v_13) (lv' := [(1, .int (v_13)), (4, .int (v_8)), (3, .int (v_7)), (2, .int (q_2)), (0, .ref (mad E (246)))]) hx hb dX6_sink_95 hl (k := 4) rfl (by rw [← e_v_13]; rfl) (by decide) rfl (fun ls hl => ?_)
            refine lv_goto (tgt := 2) hx hb dX6_sink_98 (by decide) ?_
            exact ih _ _ _ _ _ _ hT Z (lv_sub hl [4, 0] rfl) k0
          · replace hT := mx_f hT h_10
            refine lv_sipush (v := (999 : Int32)) hx hb dX6_sink_86 (by decide) ?_
            refine lv_goto (tgt := 94) hx hb dX6_sink_89 (by decide) ?_
            obtain ⟨h_14, hT⟩ := mx_chk hT
            obtain ⟨G_15, e_G_15, hT⟩ := mx_nm hT
            refine mx_iast X Z hy0.z h_14 dX6_sink_94 (fun H locs Z => ?_)
            rw [e_G_15] at Z
            obtain ⟨v_16, e_v_16, hT⟩ := mx_nm hT
            refine lv_iinc (v := v_16) (lv' := [(1, .int (v_16)), (4, .int (v_8)), (3, .int (v_7)), (2, .int (q_2)), (0, .ref (mad E (246)))]) hx hb dX6_sink_95 hl (k := 4) rfl (by rw [← e_v_16]; rfl) (by decide) rfl (fun ls hl => ?_)
            refine lv_goto (tgt := 2) hx hb dX6_sink_98 (by decide) ?_
            exact ih _ _ _ _ _ _ hT Z (lv_sub hl [4, 0] rfl) k0
        · replace hT := mx_f hT h_9
          refine lv_iconst (v := (0 : Int32)) hx hb dX6_sink_74 (by decide) ?_
          refine lv_goto (tgt := 94) hx hb dX6_sink_75 (by decide) ?_
          obtain ⟨h_17, hT⟩ := mx_chk hT
          obtain ⟨G_18, e_G_18, hT⟩ := mx_nm hT
          refine mx_iast X Z hy0.z h_17 dX6_sink_94 (fun H locs Z => ?_)
          rw [e_G_18] at Z
          obtain ⟨v_19, e_v_19, hT⟩ := mx_nm hT
          refine lv_iinc (v := v_19) (lv' := [(1, .int (v_19)), (4, .int (v_8)), (3, .int (v_7)), (2, .int (q_2)), (0, .ref (mad E (246)))]) hx hb dX6_sink_95 hl (k := 4) rfl (by rw [← e_v_19]; rfl) (by decide) rfl (fun ls hl => ?_)
          refine lv_goto (tgt := 2) hx hb dX6_sink_98 (by decide) ?_
          exact ih _ _ _ _ _ _ hT Z (lv_sub hl [4, 0] rfl) k0
      · replace hT := mx_t hT h_4
        refine lv_aload_n hx hb dX6_sink_28 rfl (lv_at hl 1 rfl) ?_
        refine lv_iconst (v := (1 : Int32)) hx hb dX6_sink_29 (by decide) ?_
        obtain ⟨q_20, h_q_20, hT⟩ := mx_bind hT
        refine mx_callV (As := [.int ((1 : Int32))]) (rest := []) (st1 := [.int (q_20)]) (C := RX6) (T := TX6) (N := 11) (ci := 6) X Z hl.1 (c6_other l E hJ hy0 _ _ _ h_q_20) wd_14_8 wd_14_9 wd_14_10 wd_1_5 wd_14_11 hd6_other ⟨Nat.le_trans (by decide) hR.1, Nat.le_trans (by decide) hR.2⟩ ⟨Nat.zero_le _, Nat.zero_le _⟩ hy0.i (hy0.c _) rfl (Nat.le_of_ble_eq_true rfl) rfl rfl dX6_sink_30 (fun H locs Z => ?_)
        refine lv_ineg hx hb dX6_sink_33 ?_
        refine lv_goto (tgt := 52) hx hb dX6_sink_34 (by decide) ?_
        obtain ⟨v_21, e_v_21, hT⟩ := mx_nm hT
        refine mx_tops (congrArg (fun z => (.int (z) :: [] : List Value)) e_v_21) ?_
        refine lv_istore_n (lv' := [(3, .int (v_21)), (2, .int (q_2)), (0, .ref (mad E (246))), (1, .int (w1))]) hx hb dX6_sink_52 rfl hl (by decide) rfl (fun ls hl => ?_)
        refine lv_iload_n hx hb dX6_sink_53 rfl (lv_at hl 1 rfl) ?_
        refine lv_iload_n hx hb dX6_sink_54 rfl (lv_at hl 0 rfl) ?_
        refine lv_iadd hx hb dX6_sink_55 ?_
        obtain ⟨v_22, e_v_22, hT⟩ := mx_nm hT
        refine mx_tops (congrArg (fun z => (.int (z) :: [] : List Value)) e_v_22) ?_
        refine lv_istore (lv' := [(4, .int (v_22)), (3, .int (v_21)), (2, .int (q_2)), (0, .ref (mad E (246))), (1, .int (w1))]) hx hb dX6_sink_56 hl (by decide) rfl (fun ls hl => ?_)
        refine lv_aload_n hx hb dX6_sink_58 rfl (lv_at hl 3 rfl) ?_
        refine mx_get (v := .ref (mad E (247))) (ci := 6) (C := RX6) (T := TX6) (N := 11) X Z hy0.i (hy0.c _) rfl inlX6 0 (by decide) wd_7_23 rfl dX6_sink_59 ?_
        refine lv_iconst (v := (0 : Int32)) hx hb dX6_sink_62 (by decide) ?_
        refine lv_iconst (v := (3 : Int32)) hx hb dX6_sink_63 (by decide) ?_
        refine lv_iload_n hx hb dX6_sink_64 rfl (lv_at hl 4 rfl) ?_
        refine lv_imul hx hb dX6_sink_65 ?_
        refine lv_iadd hx hb dX6_sink_66 ?_
        refine lv_iconst (v := (2 : Int32)) hx hb dX6_sink_67 (by decide) ?_
        refine lv_iadd hx hb dX6_sink_68 ?_
        refine lv_iload hx hb dX6_sink_69 (lv_at hl 0 rfl) ?_
        refine lv_if_ge (tgt := 78) hx hb dX6_sink_71 (by decide) (fun h_23 => ?_) (fun h_23 => ?_)
        · replace hT := mx_t hT h_23
          refine lv_iload hx hb dX6_sink_78 (lv_at hl 0 rfl) ?_
          refine lv_sipush (v := (999 : Int32)) hx hb dX6_sink_80 (by decide) ?_
          refine lv_icmp_le (tgt := 92) hx hb dX6_sink_83 (by decide) (fun h_24 => ?_) (fun h_24 => ?_)
          · replace hT := mx_t hT h_24
            refine lv_iload hx hb dX6_sink_92 (lv_at hl 0 rfl) ?_
            obtain ⟨h_25, hT⟩ := mx_chk hT
            obtain ⟨G_26, e_G_26, hT⟩ := mx_nm hT
            refine mx_iast X Z hy0.z h_25 dX6_sink_94 (fun H locs Z => ?_)
            rw [e_G_26] at Z
            obtain ⟨v_27, e_v_27, hT⟩ := mx_nm hT
            refine lv_iinc (v := v_27) (lv' := [(1, .int (v_27)), (4, .int (v_22)), (3, .int (v_21)), (2, .int (q_2)), (0, .ref (mad E (246)))]) hx hb dX6_sink_95 hl (k := 4) rfl (by rw [← e_v_27]; rfl) (by decide) rfl (fun ls hl => ?_)
            refine lv_goto (tgt := 2) hx hb dX6_sink_98 (by decide) ?_
            exact ih _ _ _ _ _ _ hT Z (lv_sub hl [4, 0] rfl) k0
          · replace hT := mx_f hT h_24
            refine lv_sipush (v := (999 : Int32)) hx hb dX6_sink_86 (by decide) ?_
            refine lv_goto (tgt := 94) hx hb dX6_sink_89 (by decide) ?_
            obtain ⟨h_28, hT⟩ := mx_chk hT
            obtain ⟨G_29, e_G_29, hT⟩ := mx_nm hT
            refine mx_iast X Z hy0.z h_28 dX6_sink_94 (fun H locs Z => ?_)
            rw [e_G_29] at Z
            obtain ⟨v_30, e_v_30, hT⟩ := mx_nm hT
            refine lv_iinc (v := v_30) (lv' := [(1, .int (v_30)), (4, .int (v_22)), (3, .int (v_21)), (2, .int (q_2)), (0, .ref (mad E (246)))]) hx hb dX6_sink_95 hl (k := 4) rfl (by rw [← e_v_30]; rfl) (by decide) rfl (fun ls hl => ?_)
            refine lv_goto (tgt := 2) hx hb dX6_sink_98 (by decide) ?_
            exact ih _ _ _ _ _ _ hT Z (lv_sub hl [4, 0] rfl) k0
        · replace hT := mx_f hT h_23
          refine lv_iconst (v := (0 : Int32)) hx hb dX6_sink_74 (by decide) ?_
          refine lv_goto (tgt := 94) hx hb dX6_sink_75 (by decide) ?_
          obtain ⟨h_31, hT⟩ := mx_chk hT
          obtain ⟨G_32, e_G_32, hT⟩ := mx_nm hT
          refine mx_iast X Z hy0.z h_31 dX6_sink_94 (fun H locs Z => ?_)
          rw [e_G_32] at Z
          obtain ⟨v_33, e_v_33, hT⟩ := mx_nm hT
          refine lv_iinc (v := v_33) (lv' := [(1, .int (v_33)), (4, .int (v_22)), (3, .int (v_21)), (2, .int (q_2)), (0, .ref (mad E (246)))]) hx hb dX6_sink_95 hl (k := 4) rfl (by rw [← e_v_33]; rfl) (by decide) rfl (fun ls hl => ?_)
          refine lv_goto (tgt := 2) hx hb dX6_sink_98 (by decide) ?_
          exact ih _ _ _ _ _ _ hT Z (lv_sub hl [4, 0] rfl) k0
set_option maxHeartbeats 4000000 in
set_option maxRecDepth 100000 in
theorem c6_sink (l : Launch) (E : mE) (hJ : mJ E) (hc : mMo E 246) (G : mM) (q : mM) (hT : x6_sink G = some q) : mMet l E yX6_sink cX6_sink 5 none 3 66 [.ref (mad E (246))] G (none) q := by
  refine Met.ofW (cc := cX6_sink) (maxL := 5) (ret := none) (by decide) rfl ?_
  intro p e s m args below meth cd s₁ B hml hv
  obtain ⟨rfl, hP, hK, hS⟩ := hv
  have X := mx_entry (own := RX6) B hml hK hJ hS rfl
  have hx := X.1
  have hb := X.2.1
  have hown := X.2.2.2.1
  have hts := X.2.2.2.2.1
  have hr := B.returns
  have hlocks := B.notSynchronized
  have hR : 3 ≤ (headSpec (mWs yX6_sink cX6_sink 5 none) ({ frames := 3, cells := 0, slots := 0, locals := 66 })).room.frames ∧ 66 ≤ (headSpec (mWs yX6_sink cX6_sink 5 none) ({ frames := 3, cells := 0, slots := 0, locals := 66 })).room.locals := ⟨Nat.le_refl _, Nat.le_refl _⟩
  have Z : mZ E s.heap s.heap [] G := ⟨hP, va_S.rf⟩
  have hl := lv_entry ([.ref (mad E (246))]) (n := 5) (Nat.le_of_ble_eq_true rfl)
  rw [lg_entry_eq]
  generalize (lg_sl ([.ref (mad E (246))]) ++ List.replicate (5 - (lg_sl ([.ref (mad E (246))])).length) Slot.unset).toArray = ls at hl ⊢
  have hl : lv_has ls 5 [(0, .ref (mad E (246)))] := hl
  unfold x6_sink at hT
  refine lv_iconst (v := (0 : Int32)) hx hb dX6_sink_0 (by decide) ?_
  refine lv_istore_n (lv' := [(1, .int ((0 : Int32))), (0, .ref (mad E (246)))]) hx hb dX6_sink_1 rfl hl (by decide) rfl (fun ls hl => ?_)
  obtain ⟨q_34, h_q_34, hT⟩ := mx_bind hT
  refine k6_sink_2 X hR hJ hc  _ _ _ _ _ _ _ h_q_34 Z (lv_sub (l' := [(0, .ref (mad E (246))), (1, .int ((0 : Int32)))]) hl [1, 0] rfl) (fun H locs ls Z hl => ?_)
  · cases hT
    exact W.vret hx hb hr (fun t ht hW => mx_end Z t ht _) Z.2.2.2 dX6_sink_101
/-! PeatRailwayModel.tick -/
def x6_tick_L4 : Nat → Int32 → Int32 → mM → Option (Int32)
  | 0, _, _, _ => none
  | n + 1, w1, w2, G =>
    if (G 247 73) ≤ w2 then
      some (w1)
    else
      (x6_of w2 ((4 : Int32)) G).bind fun q_2 =>
      mNm (w1 ||| (q_2 <<< (w2 &&& 31))) fun v_3 =>
      mNm (w2 + (1 : Int32)) fun v_4 =>
      x6_tick_L4 n v_3 v_4 G
def x6_tick_L48 (y1 : Int32) (y2 : Int32) (y3 : Int32) : Nat → Int32 → mM → Option (mM)
  | 0, _, _ => none
  | n + 1, w4, G =>
    if (G 247 73) ≤ w4 then
      some (G)
    else
      if y2 = ((2 : Int32)) then
        if ((1 : Int32)) = (((1 : Int32)) - y3) then
          (x6_turn w4 G).bind fun q_23 =>
          mNm (w4 + (1 : Int32)) fun v_24 =>
          x6_tick_L48 y1 y2 y3 n v_24 q_23
        else
          mNm (w4 + (1 : Int32)) fun v_22 =>
          x6_tick_L48 y1 y2 y3 n v_22 G
      else
        if y2 = 0 then
          mNm ((y1 >>> (w4 &&& 31)) &&& ((1 : Int32))) fun v_16 =>
          if v_16 = (((1 : Int32)) - y3) then
            (x6_turn w4 G).bind fun q_19 =>
            mNm (w4 + (1 : Int32)) fun v_20 =>
            x6_tick_L48 y1 y2 y3 n v_20 q_19
          else
            mNm (w4 + (1 : Int32)) fun v_18 =>
            x6_tick_L48 y1 y2 y3 n v_18 G
        else
          mNm (((1 : Int32)) - ((y1 >>> (w4 &&& 31)) &&& ((1 : Int32)))) fun v_11 =>
          if v_11 = (((1 : Int32)) - y3) then
            (x6_turn w4 G).bind fun q_14 =>
            mNm (w4 + (1 : Int32)) fun v_15 =>
            x6_tick_L48 y1 y2 y3 n v_15 q_14
          else
            mNm (w4 + (1 : Int32)) fun v_13 =>
            x6_tick_L48 y1 y2 y3 n v_13 G
def x6_tick_L40 (y1 : Int32) (y2 : Int32) : Nat → Int32 → mM → Option (mM)
  | 0, _, _ => none
  | n + 1, w3, G =>
    if ((2 : Int32)) ≤ w3 then
      some (G)
    else
      (x6_tick_L48 y1 y2 w3 mFu ((0 : Int32)) G).bind fun q_25 =>
      mNm (w3 + (1 : Int32)) fun v_26 =>
      x6_tick_L40 y1 y2 n v_26 q_25
def x6_tick (G : mM) : Option mM :=
  (x6_tick_L4 mFu ((0 : Int32)) ((0 : Int32)) G).bind fun q_5 =>
  (x6_other ((2 : Int32)) G).bind fun q_6 =>
  (x6_tick_L40 q_5 q_6 mFu ((0 : Int32)) G).bind fun q_27 =>
  (x6_sink q_27).bind fun q_28 =>
  mNm (up2 q_28 247 74 ((q_28 247 74) + ((1 : Int32)))) fun G_29 =>
  some (G_29)
theorem hd6_tick : yX6_tick.cls = RX6 ∧ yX6_tick.cls ≠ "java/lang/invoke/MethodHandle" ∧ yX6_tick.cls ≠ "java/lang/invoke/VarHandle" ∧ (parseMethodDescriptor yX6_tick.desc).map (fun d => d.parameters.length) = some 0 := by decide +kernel
set_option maxHeartbeats 4000000 in
set_option maxRecDepth 100000 in
theorem k6_tick_4 {p : Program} {l : Launch} {e : Env} {R : Room} {s : State} {m : MethodId} {args : Array Value} {below : List Frame} {meth : Method} {cd : Code} {Q : State → Prop} {E : mE} (X : mX p s m args cd cX6_tick 6 RX6 E) (hR : 5 ≤ R.frames ∧ 114 ≤ R.locals) (hJ : mJ E) (hy0 : mMo E 246) : ∀ (n : Nat) (w1 : Int32) (w2 : Int32) (G : mM) (H : Heap) (locs : List Loc) (ls : Array Slot) (r : Int32), x6_tick_L4 n w1 w2 G = some r → mZ E s.heap H locs G → lv_has ls 6 [(0, .ref (mad E (246))), (1, .int (w1)), (2, .int (w2))] → (∀ (H : Heap) (locs : List Loc) (ls : Array Slot), mZ E s.heap H locs G → lv_has ls 6 [(0, .ref (mad E (246))), (1, .int (r))] → W p l e R s m args below meth cd H locs 0 0 Q (F0 m 32 ls [])) → W p l e R s m args below meth cd H locs 0 0 Q (F0 m 4 ls []) := by
  have hx := X.1
  have hb := X.2.1
  have hown := X.2.2.2.1
  have hts := X.2.2.2.2.1
  intro n
  induction n with
  | zero =>
    intro w1 w2 G H locs ls r hT
    rw [x6_tick_L4] at hT
    cases hT
  | succ n ih =>
    intro w1 w2 G H locs ls r hT Z hl k0
    rw [x6_tick_L4] at hT
    refine lv_iload_n hx hb dX6_tick_4 rfl (lv_at hl 2 rfl) ?_
    refine lv_aload_n hx hb dX6_tick_5 rfl (lv_at hl 0 rfl) ?_
    refine mx_get (v := .ref (mad E (247))) (ci := 6) (C := RX6) (T := TX6) (N := 11) X Z hy0.i (hy0.c _) rfl inlX6 0 (by decide) wd_7_23 rfl dX6_tick_6 ?_
    refine lv_bipush (v := (73 : Int32)) hx hb dX6_tick_9 (by decide) ?_
    refine mx_iald X Z hy0.z (mx_lit (by decide)) dX6_tick_11 ?_
    refine mx_tops (s2 := [.int (G 247 73), .int (w2)]) rfl ?_
    refine lv_icmp_ge (tgt := 32) hx hb dX6_tick_12 (by decide) (fun h_1 => ?_) (fun h_1 => ?_)
    · replace hT := mx_t hT h_1
      cases hT
      exact k0 _ _ _ Z (lv_sub hl [0, 1] rfl)
    · replace hT := mx_f hT h_1
      refine lv_iload_n hx hb dX6_tick_15 rfl (lv_at hl 1 rfl) ?_
      refine lv_aload_n hx hb dX6_tick_16 rfl (lv_at hl 0 rfl) ?_
      refine lv_iload_n hx hb dX6_tick_17 rfl (lv_at hl 2 rfl) ?_
      refine lv_iconst (v := (4 : Int32)) hx hb dX6_tick_18 (by decide) ?_
      obtain ⟨q_2, h_q_2, hT⟩ := mx_bind hT
      refine mx_callV (As := [.int (w2), .int ((4 : Int32))]) (rest := [.int (w1)]) (st1 := [.int (q_2), .int (w1)]) (C := RX6) (T := TX6) (N := 11) (ci := 6) X Z hl.1 (c6_of l E hJ hy0 _ _ _ _ h_q_2) wd_13_11 wd_13_12 wd_13_13 wd_1_5 wd_13_14 hd6_of ⟨Nat.le_trans (by decide) hR.1, Nat.le_trans (by decide) hR.2⟩ ⟨Nat.zero_le _, Nat.zero_le _⟩ hy0.i (hy0.c _) rfl (Nat.le_of_ble_eq_true rfl) rfl rfl dX6_tick_19 (fun H locs Z => ?_)
      refine lv_iload_n hx hb dX6_tick_22 rfl (lv_at hl 2 rfl) ?_
      refine lv_ishl hx hb dX6_tick_23 ?_
      refine lv_ior hx hb dX6_tick_24 ?_
      obtain ⟨v_3, e_v_3, hT⟩ := mx_nm hT
      refine mx_tops (congrArg (fun z => (.int (z) :: [] : List Value)) e_v_3) ?_
      refine lv_istore_n (lv' := [(1, .int (v_3)), (0, .ref (mad E (246))), (2, .int (w2))]) hx hb dX6_tick_25 rfl hl (by decide) rfl (fun ls hl => ?_)
      obtain ⟨v_4, e_v_4, hT⟩ := mx_nm hT
      refine lv_iinc (v := v_4) (lv' := [(2, .int (v_4)), (1, .int (v_3)), (0, .ref (mad E (246)))]) hx hb dX6_tick_26 hl (k := 2) rfl (by rw [← e_v_4]; rfl) (by decide) rfl (fun ls hl => ?_)
      refine lv_goto (tgt := 4) hx hb dX6_tick_29 (by decide) ?_
      exact ih _ _ _ _ _ _ _ hT Z (lv_sub hl [2, 1, 0] rfl) k0
set_option maxHeartbeats 4000000 in
set_option maxRecDepth 100000 in
theorem k6_tick_48 {p : Program} {l : Launch} {e : Env} {R : Room} {s : State} {m : MethodId} {args : Array Value} {below : List Frame} {meth : Method} {cd : Code} {Q : State → Prop} {E : mE} (X : mX p s m args cd cX6_tick 6 RX6 E) (hR : 5 ≤ R.frames ∧ 114 ≤ R.locals) (hJ : mJ E) (hy0 : mMo E 246) (y1 : Int32) (y2 : Int32) (y3 : Int32) : ∀ (n : Nat) (w4 : Int32) (G : mM) (H : Heap) (locs : List Loc) (ls : Array Slot) (r : mM), x6_tick_L48 y1 y2 y3 n w4 G = some r → mZ E s.heap H locs G → lv_has ls 6 [(0, .ref (mad E (246))), (1, .int (y1)), (2, .int (y2)), (3, .int (y3)), (4, .int (w4))] → (∀ (H : Heap) (locs : List Loc) (ls : Array Slot), mZ E s.heap H locs r → lv_has ls 6 [(0, .ref (mad E (246))), (1, .int (y1)), (2, .int (y2)), (3, .int (y3))] → W p l e R s m args below meth cd H locs 0 0 Q (F0 m 112 ls [])) → W p l e R s m args below meth cd H locs 0 0 Q (F0 m 48 ls []) := by
  have hx := X.1
  have hb := X.2.1
  have hown := X.2.2.2.1
  have hts := X.2.2.2.2.1
  intro n
  induction n with
  | zero =>
    intro w4 G H locs ls r hT
    rw [x6_tick_L48] at hT
    cases hT
  | succ n ih =>
    intro w4 G H locs ls r hT Z hl k0
    rw [x6_tick_L48] at hT
    refine lv_iload hx hb dX6_tick_48 (lv_at hl 4 rfl) ?_
    refine lv_aload_n hx hb dX6_tick_50 rfl (lv_at hl 0 rfl) ?_
    refine mx_get (v := .ref (mad E (247))) (ci := 6) (C := RX6) (T := TX6) (N := 11) X Z hy0.i (hy0.c _) rfl inlX6 0 (by decide) wd_7_23 rfl dX6_tick_51 ?_
    refine lv_bipush (v := (73 : Int32)) hx hb dX6_tick_54 (by decide) ?_
    refine mx_iald X Z hy0.z (mx_lit (by decide)) dX6_tick_56 ?_
    refine mx_tops (s2 := [.int (G 247 73), .int (w4)]) rfl ?_
    refine lv_icmp_ge (tgt := 112) hx hb dX6_tick_57 (by decide) (fun h_8 => ?_) (fun h_8 => ?_)
    · replace hT := mx_t hT h_8
      cases hT
      exact k0 _ _ _ Z (lv_sub hl [0, 1, 2, 3] rfl)
    · replace hT := mx_f hT h_8
      refine lv_iload_n hx hb dX6_tick_60 rfl (lv_at hl 2 rfl) ?_
      refine lv_iconst (v := (2 : Int32)) hx hb dX6_tick_61 (by decide) ?_
      refine lv_icmp_ne (tgt := 69) hx hb dX6_tick_62 (by decide) (fun h_9 => ?_) (fun h_9 => ?_)
      · replace hT := mx_f hT h_9
        refine lv_iload_n hx hb dX6_tick_69 rfl (lv_at hl 2 rfl) ?_
        refine lv_if_ne (tgt := 82) hx hb dX6_tick_70 (by decide) (fun h_10 => ?_) (fun h_10 => ?_)
        · replace hT := mx_f hT h_10
          refine lv_iconst (v := (1 : Int32)) hx hb dX6_tick_82 (by decide) ?_
          refine lv_iload_n hx hb dX6_tick_83 rfl (lv_at hl 1 rfl) ?_
          refine lv_iload hx hb dX6_tick_84 (lv_at hl 4 rfl) ?_
          refine lv_ishr hx hb dX6_tick_86 ?_
          refine lv_iconst (v := (1 : Int32)) hx hb dX6_tick_87 (by decide) ?_
          refine lv_iand hx hb dX6_tick_88 ?_
          refine lv_isub hx hb dX6_tick_89 ?_
          obtain ⟨v_11, e_v_11, hT⟩ := mx_nm hT
          refine mx_tops (congrArg (fun z => (.int (z) :: [] : List Value)) e_v_11) ?_
          refine lv_istore (lv' := [(5, .int (v_11)), (0, .ref (mad E (246))), (1, .int (y1)), (2, .int (y2)), (3, .int (y3)), (4, .int (w4))]) hx hb dX6_tick_90 hl (by decide) rfl (fun ls hl => ?_)
          refine lv_iload hx hb dX6_tick_92 (lv_at hl 0 rfl) ?_
          refine lv_iconst (v := (1 : Int32)) hx hb dX6_tick_94 (by decide) ?_
          refine lv_iload_n hx hb dX6_tick_95 rfl (lv_at hl 4 rfl) ?_
          refine lv_isub hx hb dX6_tick_96 ?_
          refine lv_icmp_ne (tgt := 106) hx hb dX6_tick_97 (by decide) (fun h_12 => ?_) (fun h_12 => ?_)
          · replace hT := mx_f hT h_12
            obtain ⟨v_13, e_v_13, hT⟩ := mx_nm hT
            refine lv_iinc (v := v_13) (lv' := [(4, .int (v_13)), (5, .int (v_11)), (0, .ref (mad E (246))), (1, .int (y1)), (2, .int (y2)), (3, .int (y3))]) hx hb dX6_tick_106 hl (k := 5) rfl (by rw [← e_v_13]; rfl) (by decide) rfl (fun ls hl => ?_)
            refine lv_goto (tgt := 48) hx hb dX6_tick_109 (by decide) ?_
            exact ih _ _ _ _ _ _ hT Z (lv_sub hl [2, 3, 4, 5, 0] rfl) k0
          · replace hT := mx_t hT h_12
            refine lv_aload_n hx hb dX6_tick_100 rfl (lv_at hl 1 rfl) ?_
            refine lv_iload hx hb dX6_tick_101 (lv_at hl 5 rfl) ?_
            obtain ⟨q_14, h_q_14, hT⟩ := mx_bind hT
            refine mx_callV (As := [.int (w4)]) (rest := []) (st1 := []) (C := RX6) (T := TX6) (N := 11) (ci := 6) X Z hl.1 (c6_turn l E hJ hy0 _ _ _ h_q_14) wd_21_11 wd_21_12 wd_21_13 wd_1_5 wd_21_14 hd6_turn ⟨Nat.le_trans (by decide) hR.1, Nat.le_trans (by decide) hR.2⟩ ⟨Nat.zero_le _, Nat.zero_le _⟩ hy0.i (hy0.c _) rfl (Nat.le_of_ble_eq_true rfl) rfl rfl dX6_tick_103 (fun H locs Z => ?_)
            obtain ⟨v_15, e_v_15, hT⟩ := mx_nm hT
            refine lv_iinc (v := v_15) (lv' := [(4, .int (v_15)), (5, .int (v_11)), (0, .ref (mad E (246))), (1, .int (y1)), (2, .int (y2)), (3, .int (y3))]) hx hb dX6_tick_106 hl (k := 5) rfl (by rw [← e_v_15]; rfl) (by decide) rfl (fun ls hl => ?_)
            refine lv_goto (tgt := 48) hx hb dX6_tick_109 (by decide) ?_
            exact ih _ _ _ _ _ _ hT Z (lv_sub hl [2, 3, 4, 5, 0] rfl) k0
        · replace hT := mx_t hT h_10
          refine lv_iload_n hx hb dX6_tick_73 rfl (lv_at hl 1 rfl) ?_
          refine lv_iload hx hb dX6_tick_74 (lv_at hl 4 rfl) ?_
          refine lv_ishr hx hb dX6_tick_76 ?_
          refine lv_iconst (v := (1 : Int32)) hx hb dX6_tick_77 (by decide) ?_
          refine lv_iand hx hb dX6_tick_78 ?_
          refine lv_goto (tgt := 90) hx hb dX6_tick_79 (by decide) ?_
          obtain ⟨v_16, e_v_16, hT⟩ := mx_nm hT
          refine mx_tops (congrArg (fun z => (.int (z) :: [] : List Value)) e_v_16) ?_
          refine lv_istore (lv' := [(5, .int (v_16)), (0, .ref (mad E (246))), (1, .int (y1)), (2, .int (y2)), (3, .int (y3)), (4, .int (w4))]) hx hb dX6_tick_90 hl (by decide) rfl (fun ls hl => ?_)
          refine lv_iload hx hb dX6_tick_92 (lv_at hl 0 rfl) ?_
          refine lv_iconst (v := (1 : Int32)) hx hb dX6_tick_94 (by decide) ?_
          refine lv_iload_n hx hb dX6_tick_95 rfl (lv_at hl 4 rfl) ?_
          refine lv_isub hx hb dX6_tick_96 ?_
          refine lv_icmp_ne (tgt := 106) hx hb dX6_tick_97 (by decide) (fun h_17 => ?_) (fun h_17 => ?_)
          · replace hT := mx_f hT h_17
            obtain ⟨v_18, e_v_18, hT⟩ := mx_nm hT
            refine lv_iinc (v := v_18) (lv' := [(4, .int (v_18)), (5, .int (v_16)), (0, .ref (mad E (246))), (1, .int (y1)), (2, .int (y2)), (3, .int (y3))]) hx hb dX6_tick_106 hl (k := 5) rfl (by rw [← e_v_18]; rfl) (by decide) rfl (fun ls hl => ?_)
            refine lv_goto (tgt := 48) hx hb dX6_tick_109 (by decide) ?_
            exact ih _ _ _ _ _ _ hT Z (lv_sub hl [2, 3, 4, 5, 0] rfl) k0
          · replace hT := mx_t hT h_17
            refine lv_aload_n hx hb dX6_tick_100 rfl (lv_at hl 1 rfl) ?_
            refine lv_iload hx hb dX6_tick_101 (lv_at hl 5 rfl) ?_
            obtain ⟨q_19, h_q_19, hT⟩ := mx_bind hT
            refine mx_callV (As := [.int (w4)]) (rest := []) (st1 := []) (C := RX6) (T := TX6) (N := 11) (ci := 6) X Z hl.1 (c6_turn l E hJ hy0 _ _ _ h_q_19) wd_21_11 wd_21_12 wd_21_13 wd_1_5 wd_21_14 hd6_turn ⟨Nat.le_trans (by decide) hR.1, Nat.le_trans (by decide) hR.2⟩ ⟨Nat.zero_le _, Nat.zero_le _⟩ hy0.i (hy0.c _) rfl (Nat.le_of_ble_eq_true rfl) rfl rfl dX6_tick_103 (fun H locs Z => ?_)
            obtain ⟨v_20, e_v_20, hT⟩ := mx_nm hT
            refine lv_iinc (v := v_20) (lv' := [(4, .int (v_20)), (5, .int (v_16)), (0, .ref (mad E (246))), (1, .int (y1)), (2, .int (y2)), (3, .int (y3))]) hx hb dX6_tick_106 hl (k := 5) rfl (by rw [← e_v_20]; rfl) (by decide) rfl (fun ls hl => ?_)
            refine lv_goto (tgt := 48) hx hb dX6_tick_109 (by decide) ?_
            exact ih _ _ _ _ _ _ hT Z (lv_sub hl [2, 3, 4, 5, 0] rfl) k0
      · replace hT := mx_t hT h_9
        refine lv_iconst (v := (1 : Int32)) hx hb dX6_tick_65 (by decide) ?_
        refine lv_goto (tgt := 90) hx hb dX6_tick_66 (by decide) ?_
        refine lv_istore (lv' := [(5, .int ((1 : Int32))), (0, .ref (mad E (246))), (1, .int (y1)), (2, .int (y2)), (3, .int (y3)), (4, .int (w4))]) hx hb dX6_tick_90 hl (by decide) rfl (fun ls hl => ?_)
        refine lv_iload hx hb dX6_tick_92 (lv_at hl 0 rfl) ?_
        refine lv_iconst (v := (1 : Int32)) hx hb dX6_tick_94 (by decide) ?_
        refine lv_iload_n hx hb dX6_tick_95 rfl (lv_at hl 4 rfl) ?_
        refine lv_isub hx hb dX6_tick_96 ?_
        refine lv_icmp_ne (tgt := 106) hx hb dX6_tick_97 (by decide) (fun h_21 => ?_) (fun h_21 => ?_)
        · replace hT := mx_f hT h_21
          obtain ⟨v_22, e_v_22, hT⟩ := mx_nm hT
          refine lv_iinc (v := v_22) (lv' := [(4, .int (v_22)), (5, .int ((1 : Int32))), (0, .ref (mad E (246))), (1, .int (y1)), (2, .int (y2)), (3, .int (y3))]) hx hb dX6_tick_106 hl (k := 5) rfl (by rw [← e_v_22]; rfl) (by decide) rfl (fun ls hl => ?_)
          refine lv_goto (tgt := 48) hx hb dX6_tick_109 (by decide) ?_
          exact ih _ _ _ _ _ _ hT Z (lv_sub hl [2, 3, 4, 5, 0] rfl) k0
        · replace hT := mx_t hT h_21
          refine lv_aload_n hx hb dX6_tick_100 rfl (lv_at hl 1 rfl) ?_
          refine lv_iload hx hb dX6_tick_101 (lv_at hl 5 rfl) ?_
          obtain ⟨q_23, h_q_23, hT⟩ := mx_bind hT
          refine mx_callV (As := [.int (w4)]) (rest := []) (st1 := []) (C := RX6) (T := TX6) (N := 11) (ci := 6) X Z hl.1 (c6_turn l E hJ hy0 _ _ _ h_q_23) wd_21_11 wd_21_12 wd_21_13 wd_1_5 wd_21_14 hd6_turn ⟨Nat.le_trans (by decide) hR.1, Nat.le_trans (by decide) hR.2⟩ ⟨Nat.zero_le _, Nat.zero_le _⟩ hy0.i (hy0.c _) rfl (Nat.le_of_ble_eq_true rfl) rfl rfl dX6_tick_103 (fun H locs Z => ?_)
          obtain ⟨v_24, e_v_24, hT⟩ := mx_nm hT
          refine lv_iinc (v := v_24) (lv' := [(4, .int (v_24)), (5, .int ((1 : Int32))), (0, .ref (mad E (246))), (1, .int (y1)), (2, .int (y2)), (3, .int (y3))]) hx hb dX6_tick_106 hl (k := 5) rfl (by rw [← e_v_24]; rfl) (by decide) rfl (fun ls hl => ?_)
          refine lv_goto (tgt := 48) hx hb dX6_tick_109 (by decide) ?_
          exact ih _ _ _ _ _ _ hT Z (lv_sub hl [2, 3, 4, 5, 0] rfl) k0
set_option maxHeartbeats 4000000 in
set_option maxRecDepth 100000 in
theorem k6_tick_40 {p : Program} {l : Launch} {e : Env} {R : Room} {s : State} {m : MethodId} {args : Array Value} {below : List Frame} {meth : Method} {cd : Code} {Q : State → Prop} {E : mE} (X : mX p s m args cd cX6_tick 6 RX6 E) (hR : 5 ≤ R.frames ∧ 114 ≤ R.locals) (hJ : mJ E) (hy0 : mMo E 246) (y1 : Int32) (y2 : Int32) : ∀ (n : Nat) (w3 : Int32) (G : mM) (H : Heap) (locs : List Loc) (ls : Array Slot) (r : mM), x6_tick_L40 y1 y2 n w3 G = some r → mZ E s.heap H locs G → lv_has ls 6 [(0, .ref (mad E (246))), (1, .int (y1)), (2, .int (y2)), (3, .int (w3))] → (∀ (H : Heap) (locs : List Loc) (ls : Array Slot), mZ E s.heap H locs r → lv_has ls 6 [(0, .ref (mad E (246))), (1, .int (y1)), (2, .int (y2))] → W p l e R s m args below meth cd H locs 0 0 Q (F0 m 118 ls [])) → W p l e R s m args below meth cd H locs 0 0 Q (F0 m 40 ls []) := by
  have hx := X.1
  have hb := X.2.1
  have hown := X.2.2.2.1
  have hts := X.2.2.2.2.1
  intro n
  induction n with
  | zero =>
    intro w3 G H locs ls r hT
    rw [x6_tick_L40] at hT
    cases hT
  | succ n ih =>
    intro w3 G H locs ls r hT Z hl k0
    rw [x6_tick_L40] at hT
    refine lv_iload_n hx hb dX6_tick_40 rfl (lv_at hl 3 rfl) ?_
    refine lv_iconst (v := (2 : Int32)) hx hb dX6_tick_41 (by decide) ?_
    refine lv_icmp_ge (tgt := 118) hx hb dX6_tick_42 (by decide) (fun h_7 => ?_) (fun h_7 => ?_)
    · replace hT := mx_t hT h_7
      cases hT
      exact k0 _ _ _ Z (lv_sub hl [0, 1, 2] rfl)
    · replace hT := mx_f hT h_7
      refine lv_iconst (v := (0 : Int32)) hx hb dX6_tick_45 (by decide) ?_
      refine lv_istore (lv' := [(4, .int ((0 : Int32))), (0, .ref (mad E (246))), (1, .int (y1)), (2, .int (y2)), (3, .int (w3))]) hx hb dX6_tick_46 hl (by decide) rfl (fun ls hl => ?_)
      obtain ⟨q_25, h_q_25, hT⟩ := mx_bind hT
      refine k6_tick_48 X hR hJ hy0 _ _ _ _ _ _ _ _ _ _ h_q_25 Z (lv_sub (l' := [(0, .ref (mad E (246))), (1, .int (y1)), (2, .int (y2)), (3, .int (w3)), (4, .int ((0 : Int32)))]) hl [1, 2, 3, 4, 0] rfl) (fun H locs ls Z hl => ?_)
      · obtain ⟨v_26, e_v_26, hT⟩ := mx_nm hT
        refine lv_iinc (v := v_26) (lv' := [(3, .int (v_26)), (0, .ref (mad E (246))), (1, .int (y1)), (2, .int (y2))]) hx hb dX6_tick_112 hl (k := 3) rfl (by rw [← e_v_26]; rfl) (by decide) rfl (fun ls hl => ?_)
        refine lv_goto (tgt := 40) hx hb dX6_tick_115 (by decide) ?_
        exact ih _ _ _ _ _ _ hT Z (lv_sub hl [1, 2, 3, 0] rfl) k0
set_option maxHeartbeats 4000000 in
set_option maxRecDepth 100000 in
theorem c6_tick (l : Launch) (E : mE) (hJ : mJ E) (hc : mMo E 246) (G : mM) (q : mM) (hT : x6_tick G = some q) : mMet l E yX6_tick cX6_tick 6 none 5 114 [.ref (mad E (246))] G (none) q := by
  refine Met.ofW (cc := cX6_tick) (maxL := 6) (ret := none) (by decide) rfl ?_
  intro p e s m args below meth cd s₁ B hml hv
  obtain ⟨rfl, hP, hK, hS⟩ := hv
  have X := mx_entry (own := RX6) B hml hK hJ hS rfl
  have hx := X.1
  have hb := X.2.1
  have hown := X.2.2.2.1
  have hts := X.2.2.2.2.1
  have hr := B.returns
  have hlocks := B.notSynchronized
  have hR : 5 ≤ (headSpec (mWs yX6_tick cX6_tick 6 none) ({ frames := 5, cells := 0, slots := 0, locals := 114 })).room.frames ∧ 114 ≤ (headSpec (mWs yX6_tick cX6_tick 6 none) ({ frames := 5, cells := 0, slots := 0, locals := 114 })).room.locals := ⟨Nat.le_refl _, Nat.le_refl _⟩
  have Z : mZ E s.heap s.heap [] G := ⟨hP, va_S.rf⟩
  have hl := lv_entry ([.ref (mad E (246))]) (n := 6) (Nat.le_of_ble_eq_true rfl)
  rw [lg_entry_eq]
  generalize (lg_sl ([.ref (mad E (246))]) ++ List.replicate (6 - (lg_sl ([.ref (mad E (246))])).length) Slot.unset).toArray = ls at hl ⊢
  have hl : lv_has ls 6 [(0, .ref (mad E (246)))] := hl
  unfold x6_tick at hT
  refine lv_iconst (v := (0 : Int32)) hx hb dX6_tick_0 (by decide) ?_
  refine lv_istore_n (lv' := [(1, .int ((0 : Int32))), (0, .ref (mad E (246)))]) hx hb dX6_tick_1 rfl hl (by decide) rfl (fun ls hl => ?_)
  refine lv_iconst (v := (0 : Int32)) hx hb dX6_tick_2 (by decide) ?_
  refine lv_istore_n (lv' := [(2, .int ((0 : Int32))), (1, .int ((0 : Int32))), (0, .ref (mad E (246)))]) hx hb dX6_tick_3 rfl hl (by decide) rfl (fun ls hl => ?_)
  obtain ⟨q_5, h_q_5, hT⟩ := mx_bind hT
  refine k6_tick_4 X hR hJ hc  _ _ _ _ _ _ _ _ h_q_5 Z (lv_sub (l' := [(0, .ref (mad E (246))), (1, .int ((0 : Int32))), (2, .int ((0 : Int32)))]) hl [2, 1, 0] rfl) (fun H locs ls Z hl => ?_)
  · refine lv_aload_n hx hb dX6_tick_32 rfl (lv_at hl 0 rfl) ?_
    refine lv_iconst (v := (2 : Int32)) hx hb dX6_tick_33 (by decide) ?_
    obtain ⟨q_6, h_q_6, hT⟩ := mx_bind hT
    refine mx_callV (As := [.int ((2 : Int32))]) (rest := []) (st1 := [.int (q_6)]) (C := RX6) (T := TX6) (N := 11) (ci := 6) X Z hl.1 (c6_other l E hJ hc _ _ _ h_q_6) wd_14_8 wd_14_9 wd_14_10 wd_1_5 wd_14_11 hd6_other ⟨Nat.le_trans (by decide) hR.1, Nat.le_trans (by decide) hR.2⟩ ⟨Nat.zero_le _, Nat.zero_le _⟩ hc.i (hc.c _) rfl (Nat.le_of_ble_eq_true rfl) rfl rfl dX6_tick_34 (fun H locs Z => ?_)
    refine lv_istore_n (lv' := [(2, .int (q_6)), (0, .ref (mad E (246))), (1, .int (q_5))]) hx hb dX6_tick_37 rfl hl (by decide) rfl (fun ls hl => ?_)
    refine lv_iconst (v := (0 : Int32)) hx hb dX6_tick_38 (by decide) ?_
    refine lv_istore_n (lv' := [(3, .int ((0 : Int32))), (2, .int (q_6)), (0, .ref (mad E (246))), (1, .int (q_5))]) hx hb dX6_tick_39 rfl hl (by decide) rfl (fun ls hl => ?_)
    obtain ⟨q_27, h_q_27, hT⟩ := mx_bind hT
    refine k6_tick_40 X hR hJ hc _ _ _ _ _ _ _ _ _ h_q_27 Z (lv_sub (l' := [(0, .ref (mad E (246))), (1, .int (q_5)), (2, .int (q_6)), (3, .int ((0 : Int32)))]) hl [2, 3, 1, 0] rfl) (fun H locs ls Z hl => ?_)
    · refine lv_aload_n hx hb dX6_tick_118 rfl (lv_at hl 0 rfl) ?_
      obtain ⟨q_28, h_q_28, hT⟩ := mx_bind hT
      refine mx_callV (As := []) (rest := []) (st1 := []) (C := RX6) (T := TX6) (N := 11) (ci := 6) X Z hl.1 (c6_sink l E hJ hc _ _ h_q_28) wd_23_3 wd_23_4 wd_23_5 wd_1_5 wd_23_6 hd6_sink ⟨Nat.le_trans (by decide) hR.1, Nat.le_trans (by decide) hR.2⟩ ⟨Nat.zero_le _, Nat.zero_le _⟩ hc.i (hc.c _) rfl (Nat.le_of_ble_eq_true rfl) rfl rfl dX6_tick_119 (fun H locs Z => ?_)
      refine lv_aload_n hx hb dX6_tick_122 rfl (lv_at hl 0 rfl) ?_
      refine mx_get (v := .ref (mad E (247))) (ci := 6) (C := RX6) (T := TX6) (N := 11) X Z hc.i (hc.c _) rfl inlX6 0 (by decide) wd_7_23 rfl dX6_tick_123 ?_
      refine lv_bipush (v := (74 : Int32)) hx hb dX6_tick_126 (by decide) ?_
      refine lv_dup2_11 hx hb dX6_tick_128 rfl rfl ?_
      refine mx_iald X Z hc.z (mx_lit (by decide)) dX6_tick_129 ?_
      refine mx_tops (s2 := [.int (q_28 247 74), .int ((74 : Int32)), .ref (mad E (247))]) rfl ?_
      refine lv_iconst (v := (1 : Int32)) hx hb dX6_tick_130 (by decide) ?_
      refine lv_iadd hx hb dX6_tick_131 ?_
      obtain ⟨G_29, e_G_29, hT⟩ := mx_nm hT
      refine mx_iast X Z hc.z (mx_lit (by decide)) dX6_tick_132 (fun H locs Z => ?_)
      replace Z : mZ E s.heap H locs (up2 q_28 247 74 ((q_28 247 74) + ((1 : Int32)))) := Z
      rw [e_G_29] at Z
      cases hT
      exact W.vret hx hb hr (fun t ht hW => mx_end Z t ht _) Z.2.2.2 dX6_tick_133
/-! PeatRailwayModel.run -/
def x6_run_L26 (y1 : Int32) (y2 : Int32) : Nat → Int32 → mM → Option (mM)
  | 0, _, _ => none
  | n + 1, w3, G =>
    if y1 ≤ w3 then
      some (G)
    else
      (x6_tick G).bind fun q_6 =>
      mNm (w3 + (1 : Int32)) fun v_7 =>
      x6_run_L26 y1 y2 n v_7 q_6
def x6_run (x1 : Int32) (G : mM) : Option (Int32 × mM) :=
  (x6_within x1 ((1 : Int32)) ((200 : Int32)) G).bind fun q_1 =>
  if q_1 = 0 then
    some ((-2 : Int32), G)
  else
    (x6_record G).bind fun q_3 =>
    (x6_other ((5 : Int32)) q_3).bind fun q_4 =>
    (x6_run_L26 x1 q_4 mFu ((0 : Int32)) q_3).bind fun q_8 =>
    (x6_other ((5 : Int32)) q_8).bind fun q_9 =>
    some (q_9 - q_4, q_8)
theorem hd6_run : yX6_run.cls = RX6 ∧ yX6_run.cls ≠ "java/lang/invoke/MethodHandle" ∧ yX6_run.cls ≠ "java/lang/invoke/VarHandle" ∧ (parseMethodDescriptor yX6_run.desc).map (fun d => d.parameters.length) = some 1 := by decide +kernel
set_option maxHeartbeats 4000000 in
set_option maxRecDepth 100000 in
theorem k6_run_26 {p : Program} {l : Launch} {e : Env} {R : Room} {s : State} {m : MethodId} {args : Array Value} {below : List Frame} {meth : Method} {cd : Code} {Q : State → Prop} {E : mE} (X : mX p s m args cd cX6_run 4 RX6 E) (hR : 6 ≤ R.frames ∧ 139 ≤ R.locals) (hJ : mJ E) (hy0 : mMo E 246) (y1 : Int32) (y2 : Int32) : ∀ (n : Nat) (w3 : Int32) (G : mM) (H : Heap) (locs : List Loc) (ls : Array Slot) (r : mM), x6_run_L26 y1 y2 n w3 G = some r → mZ E s.heap H locs G → lv_has ls 4 [(0, .ref (mad E (246))), (1, .int (y1)), (2, .int (y2)), (3, .int (w3))] → (∀ (H : Heap) (locs : List Loc) (ls : Array Slot), mZ E s.heap H locs r → lv_has ls 4 [(0, .ref (mad E (246))), (1, .int (y1)), (2, .int (y2))] → W p l e R s m args below meth cd H locs 0 0 Q (F0 m 41 ls [])) → W p l e R s m args below meth cd H locs 0 0 Q (F0 m 26 ls []) := by
  have hx := X.1
  have hb := X.2.1
  have hown := X.2.2.2.1
  have hts := X.2.2.2.2.1
  intro n
  induction n with
  | zero =>
    intro w3 G H locs ls r hT
    rw [x6_run_L26] at hT
    cases hT
  | succ n ih =>
    intro w3 G H locs ls r hT Z hl k0
    rw [x6_run_L26] at hT
    refine lv_iload_n hx hb dX6_run_26 rfl (lv_at hl 3 rfl) ?_
    refine lv_iload_n hx hb dX6_run_27 rfl (lv_at hl 1 rfl) ?_
    refine lv_icmp_ge (tgt := 41) hx hb dX6_run_28 (by decide) (fun h_5 => ?_) (fun h_5 => ?_)
    · replace hT := mx_t hT h_5
      cases hT
      exact k0 _ _ _ Z (lv_sub hl [0, 1, 2] rfl)
    · replace hT := mx_f hT h_5
      refine lv_aload_n hx hb dX6_run_31 rfl (lv_at hl 0 rfl) ?_
      obtain ⟨q_6, h_q_6, hT⟩ := mx_bind hT
      refine mx_callV (As := []) (rest := []) (st1 := []) (C := RX6) (T := TX6) (N := 11) (ci := 6) X Z hl.1 (c6_tick l E hJ hy0 _ _ h_q_6) wd_21_7 wd_21_8 wd_21_9 wd_1_5 wd_21_10 hd6_tick ⟨Nat.le_trans (by decide) hR.1, Nat.le_trans (by decide) hR.2⟩ ⟨Nat.zero_le _, Nat.zero_le _⟩ hy0.i (hy0.c _) rfl (Nat.le_of_ble_eq_true rfl) rfl rfl dX6_run_32 (fun H locs Z => ?_)
      obtain ⟨v_7, e_v_7, hT⟩ := mx_nm hT
      refine lv_iinc (v := v_7) (lv' := [(3, .int (v_7)), (0, .ref (mad E (246))), (1, .int (y1)), (2, .int (y2))]) hx hb dX6_run_35 hl (k := 3) rfl (by rw [← e_v_7]; rfl) (by decide) rfl (fun ls hl => ?_)
      refine lv_goto (tgt := 26) hx hb dX6_run_38 (by decide) ?_
      exact ih _ _ _ _ _ _ hT Z (lv_sub hl [1, 2, 3, 0] rfl) k0
set_option maxHeartbeats 4000000 in
set_option maxRecDepth 100000 in
theorem c6_run (l : Launch) (E : mE) (hJ : mJ E) (hc : mMo E 246) (x1 : Int32) (G : mM) (q : (Int32 × mM)) (hT : x6_run x1 G = some q) : mMet l E yX6_run cX6_run 4 (some .int) 6 139 [.ref (mad E (246)), .int (x1)] G (some (.int q.1)) q.2 := by
  refine Met.ofW (cc := cX6_run) (maxL := 4) (ret := (some .int)) (by decide) rfl ?_
  intro p e s m args below meth cd s₁ B hml hv
  obtain ⟨rfl, hP, hK, hS⟩ := hv
  have X := mx_entry (own := RX6) B hml hK hJ hS rfl
  have hx := X.1
  have hb := X.2.1
  have hown := X.2.2.2.1
  have hts := X.2.2.2.2.1
  have hr := B.returns
  have hlocks := B.notSynchronized
  have hR : 6 ≤ (headSpec (mWs yX6_run cX6_run 4 (some .int)) ({ frames := 6, cells := 0, slots := 0, locals := 139 })).room.frames ∧ 139 ≤ (headSpec (mWs yX6_run cX6_run 4 (some .int)) ({ frames := 6, cells := 0, slots := 0, locals := 139 })).room.locals := ⟨Nat.le_refl _, Nat.le_refl _⟩
  have Z : mZ E s.heap s.heap [] G := ⟨hP, va_S.rf⟩
  have hl := lv_entry ([.ref (mad E (246)), .int (x1)]) (n := 4) (Nat.le_of_ble_eq_true rfl)
  rw [lg_entry_eq]
  generalize (lg_sl ([.ref (mad E (246)), .int (x1)]) ++ List.replicate (4 - (lg_sl ([.ref (mad E (246)), .int (x1)])).length) Slot.unset).toArray = ls at hl ⊢
  have hl : lv_has ls 4 [(0, .ref (mad E (246))), (1, .int (x1))] := hl
  unfold x6_run at hT
  refine lv_iload_n hx hb dX6_run_0 rfl (lv_at hl 1 rfl) ?_
  refine lv_iconst (v := (1 : Int32)) hx hb dX6_run_1 (by decide) ?_
  refine lv_sipush (v := (200 : Int32)) hx hb dX6_run_2 (by decide) ?_
  obtain ⟨q_1, h_q_1, hT⟩ := mx_bind hT
  refine mx_callS (As := [.int (x1), .int ((1 : Int32)), .int ((200 : Int32))]) (rest := []) (st1 := [.int (q_1)]) X Z hl.1 (c6_within l E hJ _ _ _ _ _ h_q_1) wd_9_1 wd_9_2 wd_1_5 wd_9_3 hd6_within ⟨Nat.le_trans (by decide) hR.1, Nat.le_trans (by decide) hR.2⟩ ⟨Nat.zero_le _, Nat.zero_le _⟩ (Nat.le_of_ble_eq_true rfl) rfl rfl dX6_run_5 (fun H locs Z => ?_)
  refine lv_if_ne (tgt := 14) hx hb dX6_run_8 (by decide) (fun h_2 => ?_) (fun h_2 => ?_)
  · replace hT := mx_f hT h_2
    refine lv_aload_n hx hb dX6_run_14 rfl (lv_at hl 0 rfl) ?_
    obtain ⟨q_3, h_q_3, hT⟩ := mx_bind hT
    refine mx_callV (As := []) (rest := []) (st1 := []) (C := RX6) (T := TX6) (N := 11) (ci := 6) X Z hl.1 (c6_record l E hJ hc _ _ h_q_3) wd_12_22 wd_12_23 wd_13_0 wd_1_5 wd_13_1 hd6_record ⟨Nat.le_trans (by decide) hR.1, Nat.le_trans (by decide) hR.2⟩ ⟨Nat.zero_le _, Nat.zero_le _⟩ hc.i (hc.c _) rfl (Nat.le_of_ble_eq_true rfl) rfl rfl dX6_run_15 (fun H locs Z => ?_)
    refine lv_aload_n hx hb dX6_run_18 rfl (lv_at hl 0 rfl) ?_
    refine lv_iconst (v := (5 : Int32)) hx hb dX6_run_19 (by decide) ?_
    obtain ⟨q_4, h_q_4, hT⟩ := mx_bind hT
    refine mx_callV (As := [.int ((5 : Int32))]) (rest := []) (st1 := [.int (q_4)]) (C := RX6) (T := TX6) (N := 11) (ci := 6) X Z hl.1 (c6_other l E hJ hc _ _ _ h_q_4) wd_14_8 wd_14_9 wd_14_10 wd_1_5 wd_14_11 hd6_other ⟨Nat.le_trans (by decide) hR.1, Nat.le_trans (by decide) hR.2⟩ ⟨Nat.zero_le _, Nat.zero_le _⟩ hc.i (hc.c _) rfl (Nat.le_of_ble_eq_true rfl) rfl rfl dX6_run_20 (fun H locs Z => ?_)
    refine lv_istore_n (lv' := [(2, .int (q_4)), (0, .ref (mad E (246))), (1, .int (x1))]) hx hb dX6_run_23 rfl hl (by decide) rfl (fun ls hl => ?_)
    refine lv_iconst (v := (0 : Int32)) hx hb dX6_run_24 (by decide) ?_
    refine lv_istore_n (lv' := [(3, .int ((0 : Int32))), (2, .int (q_4)), (0, .ref (mad E (246))), (1, .int (x1))]) hx hb dX6_run_25 rfl hl (by decide) rfl (fun ls hl => ?_)
    obtain ⟨q_8, h_q_8, hT⟩ := mx_bind hT
    refine k6_run_26 X hR hJ hc _ _ _ _ _ _ _ _ _ h_q_8 Z (lv_sub (l' := [(0, .ref (mad E (246))), (1, .int (x1)), (2, .int (q_4)), (3, .int ((0 : Int32)))]) hl [2, 3, 1, 0] rfl) (fun H locs ls Z hl => ?_)
    · refine lv_aload_n hx hb dX6_run_41 rfl (lv_at hl 0 rfl) ?_
      refine lv_iconst (v := (5 : Int32)) hx hb dX6_run_42 (by decide) ?_
      obtain ⟨q_9, h_q_9, hT⟩ := mx_bind hT
      refine mx_callV (As := [.int ((5 : Int32))]) (rest := []) (st1 := [.int (q_9)]) (C := RX6) (T := TX6) (N := 11) (ci := 6) X Z hl.1 (c6_other l E hJ hc _ _ _ h_q_9) wd_14_8 wd_14_9 wd_14_10 wd_1_5 wd_14_11 hd6_other ⟨Nat.le_trans (by decide) hR.1, Nat.le_trans (by decide) hR.2⟩ ⟨Nat.zero_le _, Nat.zero_le _⟩ hc.i (hc.c _) rfl (Nat.le_of_ble_eq_true rfl) rfl rfl dX6_run_43 (fun H locs Z => ?_)
      refine lv_iload_n hx hb dX6_run_46 rfl (lv_at hl 2 rfl) ?_
      refine lv_isub hx hb dX6_run_47 ?_
      cases hT
      exact W.iret hx hb hr (fun t ht hW => mx_end Z t ht _) Z.2.2.2 dX6_run_48
  · replace hT := mx_t hT h_2
    refine lv_bipush (v := (-2 : Int32)) hx hb dX6_run_11 (by decide) ?_
    cases hT
    exact W.iret hx hb hr (fun t ht hW => mx_end Z t ht _) Z.2.2.2 dX6_run_13
/-! PeatRailwayModel.undo -/
def x6_undo (G : mM) : Option (Int32 × mM) :=
  if (G 246 2) = 0 then
    some ((-3 : Int32), G)
  else
    mNm (up2 G 246 2 ((G 246 2) - ((1 : Int32)))) fun G_2 =>
    (x6_copy 249 656 (((82 : Int32)) * (G_2 246 2)) 247 82 ((0 : Int32)) G_2).bind fun q_3 =>
    some (q_3 246 2, q_3)
theorem hd6_undo : yX6_undo.cls = RX6 ∧ yX6_undo.cls ≠ "java/lang/invoke/MethodHandle" ∧ yX6_undo.cls ≠ "java/lang/invoke/VarHandle" ∧ (parseMethodDescriptor yX6_undo.desc).map (fun d => d.parameters.length) = some 0 := by decide +kernel
set_option maxHeartbeats 4000000 in
set_option maxRecDepth 100000 in
theorem c6_undo (l : Launch) (E : mE) (hJ : mJ E) (hc : mMo E 246) (G : mM) (q : (Int32 × mM)) (hT : x6_undo G = some q) : mMet l E yX6_undo cX6_undo 1 (some .int) 1 25 [.ref (mad E (246))] G (some (.int q.1)) q.2 := by
  refine Met.ofW (cc := cX6_undo) (maxL := 1) (ret := (some .int)) (by decide) rfl ?_
  intro p e s m args below meth cd s₁ B hml hv
  obtain ⟨rfl, hP, hK, hS⟩ := hv
  have X := mx_entry (own := RX6) B hml hK hJ hS rfl
  have hx := X.1
  have hb := X.2.1
  have hown := X.2.2.2.1
  have hts := X.2.2.2.2.1
  have hr := B.returns
  have hlocks := B.notSynchronized
  have hR : 1 ≤ (headSpec (mWs yX6_undo cX6_undo 1 (some .int)) ({ frames := 1, cells := 0, slots := 0, locals := 25 })).room.frames ∧ 25 ≤ (headSpec (mWs yX6_undo cX6_undo 1 (some .int)) ({ frames := 1, cells := 0, slots := 0, locals := 25 })).room.locals := ⟨Nat.le_refl _, Nat.le_refl _⟩
  have Z : mZ E s.heap s.heap [] G := ⟨hP, va_S.rf⟩
  have hl := lv_entry ([.ref (mad E (246))]) (n := 1) (Nat.le_of_ble_eq_true rfl)
  rw [lg_entry_eq]
  generalize (lg_sl ([.ref (mad E (246))]) ++ List.replicate (1 - (lg_sl ([.ref (mad E (246))])).length) Slot.unset).toArray = ls at hl ⊢
  have hl : lv_has ls 1 [(0, .ref (mad E (246)))] := hl
  unfold x6_undo at hT
  refine lv_aload_n hx hb dX6_undo_0 rfl (lv_at hl 0 rfl) ?_
  refine mx_get (v := .int (G 246 2)) (ci := 6) (C := RX6) (T := TX6) (N := 11) X Z hc.i (hc.c _) rfl inlX6 2 (by decide) wd_13_2 rfl dX6_undo_1 ?_
  refine lv_if_ne (tgt := 10) hx hb dX6_undo_4 (by decide) (fun h_1 => ?_) (fun h_1 => ?_)
  · replace hT := mx_f hT h_1
    refine lv_aload_n hx hb dX6_undo_10 rfl (lv_at hl 0 rfl) ?_
    refine lv_dup hx hb dX6_undo_11 rfl ?_
    refine mx_get (v := .int (G 246 2)) (ci := 6) (C := RX6) (T := TX6) (N := 11) X Z hc.i (hc.c _) rfl inlX6 2 (by decide) wd_13_2 rfl dX6_undo_12 ?_
    refine lv_iconst (v := (1 : Int32)) hx hb dX6_undo_15 (by decide) ?_
    refine lv_isub hx hb dX6_undo_16 ?_
    obtain ⟨G_2, e_G_2, hT⟩ := mx_nm hT
    refine mx_put (ci := 6) (C := RX6) (T := TX6) (N := 11) X Z hc.i (hc.c _) rfl inlX6 tyX6 tyX6_ok nmX6 2 (by decide) wd_13_2 rfl rfl rfl (by show 2 < 11; decide) ((hc.c _).trans (congrArg (fun z => Sum.inr (6, z)) (sp_Mo_2 (mad E) _ _ _))) dX6_undo_17 (fun H locs Z => ?_)
    rw [e_G_2] at Z
    refine lv_aload_n hx hb dX6_undo_20 rfl (lv_at hl 0 rfl) ?_
    refine lv_aload_n hx hb dX6_undo_21 rfl (lv_at hl 0 rfl) ?_
    refine mx_get (v := .ref (mad E (249))) (ci := 6) (C := RX6) (T := TX6) (N := 11) X Z hc.i (hc.c _) rfl inlX6 3 (by decide) wd_8_1 rfl dX6_undo_22 ?_
    refine lv_bipush (v := (82 : Int32)) hx hb dX6_undo_25 (by decide) ?_
    refine lv_aload_n hx hb dX6_undo_27 rfl (lv_at hl 0 rfl) ?_
    refine mx_get (v := .int (G_2 246 2)) (ci := 6) (C := RX6) (T := TX6) (N := 11) X Z hc.i (hc.c _) rfl inlX6 2 (by decide) wd_13_2 rfl dX6_undo_28 ?_
    refine lv_imul hx hb dX6_undo_31 ?_
    refine lv_aload_n hx hb dX6_undo_32 rfl (lv_at hl 0 rfl) ?_
    refine mx_get (v := .ref (mad E (247))) (ci := 6) (C := RX6) (T := TX6) (N := 11) X Z hc.i (hc.c _) rfl inlX6 0 (by decide) wd_7_23 rfl dX6_undo_33 ?_
    refine lv_iconst (v := (0 : Int32)) hx hb dX6_undo_36 (by decide) ?_
    obtain ⟨q_3, h_q_3, hT⟩ := mx_bind hT
    refine mx_callV (As := [.ref (mad E (249)), .int (((82 : Int32)) * (G_2 246 2)), .ref (mad E (247)), .int ((0 : Int32))]) (rest := []) (st1 := []) (C := RX6) (T := TX6) (N := 11) (ci := 6) X Z hl.1 (c6_copy l E hJ hc hc.history hc.z _ _ _ _ h_q_3) wd_13_3 wd_13_4 wd_13_5 wd_1_5 wd_13_6 hd6_copy ⟨Nat.le_trans (by decide) hR.1, Nat.le_trans (by decide) hR.2⟩ ⟨Nat.zero_le _, Nat.zero_le _⟩ hc.i (hc.c _) rfl (Nat.le_of_ble_eq_true rfl) rfl rfl dX6_undo_37 (fun H locs Z => ?_)
    refine lv_aload_n hx hb dX6_undo_40 rfl (lv_at hl 0 rfl) ?_
    refine mx_get (v := .int (q_3 246 2)) (ci := 6) (C := RX6) (T := TX6) (N := 11) X Z hc.i (hc.c _) rfl inlX6 2 (by decide) wd_13_2 rfl dX6_undo_41 ?_
    cases hT
    exact W.iret hx hb hr (fun t ht hW => mx_end Z t ht _) Z.2.2.2 dX6_undo_44
  · replace hT := mx_t hT h_1
    refine lv_bipush (v := (-3 : Int32)) hx hb dX6_undo_7 (by decide) ?_
    cases hT
    exact W.iret hx hb hr (fun t ht hW => mx_end Z t ht _) Z.2.2.2 dX6_undo_9
/-! PeatRailwayModel.keep -/
def x6_keep (x1 : Int32) (G : mM) : Option (Int32 × mM) :=
  (x6_within x1 ((0 : Int32)) ((1 : Int32)) G).bind fun q_1 =>
  if q_1 = 0 then
    some ((-2 : Int32), G)
  else
    (x6_copy 247 82 ((0 : Int32)) 250 164 (((82 : Int32)) * x1) G).bind fun q_3 =>
    mNm (up2 q_3 246 4 ((q_3 246 4) ||| (((1 : Int32)) <<< (x1 &&& 31)))) fun G_4 =>
    some (G_4 247 74, G_4)
theorem hd6_keep : yX6_keep.cls = RX6 ∧ yX6_keep.cls ≠ "java/lang/invoke/MethodHandle" ∧ yX6_keep.cls ≠ "java/lang/invoke/VarHandle" ∧ (parseMethodDescriptor yX6_keep.desc).map (fun d => d.parameters.length) = some 1 := by decide +kernel
set_option maxHeartbeats 4000000 in
set_option maxRecDepth 100000 in
theorem c6_keep (l : Launch) (E : mE) (hJ : mJ E) (hc : mMo E 246) (x1 : Int32) (G : mM) (q : (Int32 × mM)) (hT : x6_keep x1 G = some q) : mMet l E yX6_keep cX6_keep 2 (some .int) 1 25 [.ref (mad E (246)), .int (x1)] G (some (.int q.1)) q.2 := by
  refine Met.ofW (cc := cX6_keep) (maxL := 2) (ret := (some .int)) (by decide) rfl ?_
  intro p e s m args below meth cd s₁ B hml hv
  obtain ⟨rfl, hP, hK, hS⟩ := hv
  have X := mx_entry (own := RX6) B hml hK hJ hS rfl
  have hx := X.1
  have hb := X.2.1
  have hown := X.2.2.2.1
  have hts := X.2.2.2.2.1
  have hr := B.returns
  have hlocks := B.notSynchronized
  have hR : 1 ≤ (headSpec (mWs yX6_keep cX6_keep 2 (some .int)) ({ frames := 1, cells := 0, slots := 0, locals := 25 })).room.frames ∧ 25 ≤ (headSpec (mWs yX6_keep cX6_keep 2 (some .int)) ({ frames := 1, cells := 0, slots := 0, locals := 25 })).room.locals := ⟨Nat.le_refl _, Nat.le_refl _⟩
  have Z : mZ E s.heap s.heap [] G := ⟨hP, va_S.rf⟩
  have hl := lv_entry ([.ref (mad E (246)), .int (x1)]) (n := 2) (Nat.le_of_ble_eq_true rfl)
  rw [lg_entry_eq]
  generalize (lg_sl ([.ref (mad E (246)), .int (x1)]) ++ List.replicate (2 - (lg_sl ([.ref (mad E (246)), .int (x1)])).length) Slot.unset).toArray = ls at hl ⊢
  have hl : lv_has ls 2 [(0, .ref (mad E (246))), (1, .int (x1))] := hl
  unfold x6_keep at hT
  refine lv_iload_n hx hb dX6_keep_0 rfl (lv_at hl 1 rfl) ?_
  refine lv_iconst (v := (0 : Int32)) hx hb dX6_keep_1 (by decide) ?_
  refine lv_iconst (v := (1 : Int32)) hx hb dX6_keep_2 (by decide) ?_
  obtain ⟨q_1, h_q_1, hT⟩ := mx_bind hT
  refine mx_callS (As := [.int (x1), .int ((0 : Int32)), .int ((1 : Int32))]) (rest := []) (st1 := [.int (q_1)]) X Z hl.1 (c6_within l E hJ _ _ _ _ _ h_q_1) wd_9_1 wd_9_2 wd_1_5 wd_9_3 hd6_within ⟨Nat.le_trans (by decide) hR.1, Nat.le_trans (by decide) hR.2⟩ ⟨Nat.zero_le _, Nat.zero_le _⟩ (Nat.le_of_ble_eq_true rfl) rfl rfl dX6_keep_3 (fun H locs Z => ?_)
  refine lv_if_ne (tgt := 12) hx hb dX6_keep_6 (by decide) (fun h_2 => ?_) (fun h_2 => ?_)
  · replace hT := mx_f hT h_2
    refine lv_aload_n hx hb dX6_keep_12 rfl (lv_at hl 0 rfl) ?_
    refine lv_aload_n hx hb dX6_keep_13 rfl (lv_at hl 0 rfl) ?_
    refine mx_get (v := .ref (mad E (247))) (ci := 6) (C := RX6) (T := TX6) (N := 11) X Z hc.i (hc.c _) rfl inlX6 0 (by decide) wd_7_23 rfl dX6_keep_14 ?_
    refine lv_iconst (v := (0 : Int32)) hx hb dX6_keep_17 (by decide) ?_
    refine lv_aload_n hx hb dX6_keep_18 rfl (lv_at hl 0 rfl) ?_
    refine mx_get (v := .ref (mad E (250))) (ci := 6) (C := RX6) (T := TX6) (N := 11) X Z hc.i (hc.c _) rfl inlX6 5 (by decide) wd_8_2 rfl dX6_keep_19 ?_
    refine lv_bipush (v := (82 : Int32)) hx hb dX6_keep_22 (by decide) ?_
    refine lv_iload_n hx hb dX6_keep_24 rfl (lv_at hl 1 rfl) ?_
    refine lv_imul hx hb dX6_keep_25 ?_
    obtain ⟨q_3, h_q_3, hT⟩ := mx_bind hT
    refine mx_callV (As := [.ref (mad E (247)), .int ((0 : Int32)), .ref (mad E (250)), .int (((82 : Int32)) * x1)]) (rest := []) (st1 := []) (C := RX6) (T := TX6) (N := 11) (ci := 6) X Z hl.1 (c6_copy l E hJ hc hc.z hc.images _ _ _ _ h_q_3) wd_13_3 wd_13_4 wd_13_5 wd_1_5 wd_13_6 hd6_copy ⟨Nat.le_trans (by decide) hR.1, Nat.le_trans (by decide) hR.2⟩ ⟨Nat.zero_le _, Nat.zero_le _⟩ hc.i (hc.c _) rfl (Nat.le_of_ble_eq_true rfl) rfl rfl dX6_keep_26 (fun H locs Z => ?_)
    refine lv_aload_n hx hb dX6_keep_29 rfl (lv_at hl 0 rfl) ?_
    refine lv_dup hx hb dX6_keep_30 rfl ?_
    refine mx_get (v := .int (q_3 246 4)) (ci := 6) (C := RX6) (T := TX6) (N := 11) X Z hc.i (hc.c _) rfl inlX6 4 (by decide) wd_24_21 rfl dX6_keep_31 ?_
    refine lv_iconst (v := (1 : Int32)) hx hb dX6_keep_34 (by decide) ?_
    refine lv_iload_n hx hb dX6_keep_35 rfl (lv_at hl 1 rfl) ?_
    refine lv_ishl hx hb dX6_keep_36 ?_
    refine lv_ior hx hb dX6_keep_37 ?_
    obtain ⟨G_4, e_G_4, hT⟩ := mx_nm hT
    refine mx_put (ci := 6) (C := RX6) (T := TX6) (N := 11) X Z hc.i (hc.c _) rfl inlX6 tyX6 tyX6_ok nmX6 4 (by decide) wd_24_21 rfl rfl rfl (by show 4 < 11; decide) ((hc.c _).trans (congrArg (fun z => Sum.inr (6, z)) (sp_Mo_4 (mad E) _ _ _))) dX6_keep_38 (fun H locs Z => ?_)
    rw [e_G_4] at Z
    refine lv_aload_n hx hb dX6_keep_41 rfl (lv_at hl 0 rfl) ?_
    refine mx_get (v := .ref (mad E (247))) (ci := 6) (C := RX6) (T := TX6) (N := 11) X Z hc.i (hc.c _) rfl inlX6 0 (by decide) wd_7_23 rfl dX6_keep_42 ?_
    refine lv_bipush (v := (74 : Int32)) hx hb dX6_keep_45 (by decide) ?_
    refine mx_iald X Z hc.z (mx_lit (by decide)) dX6_keep_47 ?_
    refine mx_tops (s2 := [.int (G_4 247 74)]) rfl ?_
    cases hT
    exact W.iret hx hb hr (fun t ht hW => mx_end Z t ht _) Z.2.2.2 dX6_keep_48
  · replace hT := mx_t hT h_2
    refine lv_bipush (v := (-2 : Int32)) hx hb dX6_keep_9 (by decide) ?_
    cases hT
    exact W.iret hx hb hr (fun t ht hW => mx_end Z t ht _) Z.2.2.2 dX6_keep_11
/-! PeatRailwayModel.back -/
def x6_back (x1 : Int32) (G : mM) : Option (Int32 × mM) :=
  (x6_within x1 ((0 : Int32)) ((1 : Int32)) G).bind fun q_1 =>
  if q_1 = 0 then
    some ((-2 : Int32), G)
  else
    if (((G 246 4) >>> (x1 &&& 31)) &&& ((1 : Int32))) = 0 then
      some ((-3 : Int32), G)
    else
      (x6_record G).bind fun q_4 =>
      (x6_copy 250 164 (((82 : Int32)) * x1) 247 82 ((0 : Int32)) q_4).bind fun q_5 =>
      some (q_5 247 74, q_5)
theorem hd6_back : yX6_back.cls = RX6 ∧ yX6_back.cls ≠ "java/lang/invoke/MethodHandle" ∧ yX6_back.cls ≠ "java/lang/invoke/VarHandle" ∧ (parseMethodDescriptor yX6_back.desc).map (fun d => d.parameters.length) = some 1 := by decide +kernel
set_option maxHeartbeats 4000000 in
set_option maxRecDepth 100000 in
theorem c6_back (l : Launch) (E : mE) (hJ : mJ E) (hc : mMo E 246) (x1 : Int32) (G : mM) (q : (Int32 × mM)) (hT : x6_back x1 G = some q) : mMet l E yX6_back cX6_back 2 (some .int) 2 46 [.ref (mad E (246)), .int (x1)] G (some (.int q.1)) q.2 := by
  refine Met.ofW (cc := cX6_back) (maxL := 2) (ret := (some .int)) (by decide) rfl ?_
  intro p e s m args below meth cd s₁ B hml hv
  obtain ⟨rfl, hP, hK, hS⟩ := hv
  have X := mx_entry (own := RX6) B hml hK hJ hS rfl
  have hx := X.1
  have hb := X.2.1
  have hown := X.2.2.2.1
  have hts := X.2.2.2.2.1
  have hr := B.returns
  have hlocks := B.notSynchronized
  have hR : 2 ≤ (headSpec (mWs yX6_back cX6_back 2 (some .int)) ({ frames := 2, cells := 0, slots := 0, locals := 46 })).room.frames ∧ 46 ≤ (headSpec (mWs yX6_back cX6_back 2 (some .int)) ({ frames := 2, cells := 0, slots := 0, locals := 46 })).room.locals := ⟨Nat.le_refl _, Nat.le_refl _⟩
  have Z : mZ E s.heap s.heap [] G := ⟨hP, va_S.rf⟩
  have hl := lv_entry ([.ref (mad E (246)), .int (x1)]) (n := 2) (Nat.le_of_ble_eq_true rfl)
  rw [lg_entry_eq]
  generalize (lg_sl ([.ref (mad E (246)), .int (x1)]) ++ List.replicate (2 - (lg_sl ([.ref (mad E (246)), .int (x1)])).length) Slot.unset).toArray = ls at hl ⊢
  have hl : lv_has ls 2 [(0, .ref (mad E (246))), (1, .int (x1))] := hl
  unfold x6_back at hT
  refine lv_iload_n hx hb dX6_back_0 rfl (lv_at hl 1 rfl) ?_
  refine lv_iconst (v := (0 : Int32)) hx hb dX6_back_1 (by decide) ?_
  refine lv_iconst (v := (1 : Int32)) hx hb dX6_back_2 (by decide) ?_
  obtain ⟨q_1, h_q_1, hT⟩ := mx_bind hT
  refine mx_callS (As := [.int (x1), .int ((0 : Int32)), .int ((1 : Int32))]) (rest := []) (st1 := [.int (q_1)]) X Z hl.1 (c6_within l E hJ _ _ _ _ _ h_q_1) wd_9_1 wd_9_2 wd_1_5 wd_9_3 hd6_within ⟨Nat.le_trans (by decide) hR.1, Nat.le_trans (by decide) hR.2⟩ ⟨Nat.zero_le _, Nat.zero_le _⟩ (Nat.le_of_ble_eq_true rfl) rfl rfl dX6_back_3 (fun H locs Z => ?_)
  refine lv_if_ne (tgt := 12) hx hb dX6_back_6 (by decide) (fun h_2 => ?_) (fun h_2 => ?_)
  · replace hT := mx_f hT h_2
    refine lv_aload_n hx hb dX6_back_12 rfl (lv_at hl 0 rfl) ?_
    refine mx_get (v := .int (G 246 4)) (ci := 6) (C := RX6) (T := TX6) (N := 11) X Z hc.i (hc.c _) rfl inlX6 4 (by decide) wd_24_21 rfl dX6_back_13 ?_
    refine lv_iload_n hx hb dX6_back_16 rfl (lv_at hl 1 rfl) ?_
    refine lv_ishr hx hb dX6_back_17 ?_
    refine lv_iconst (v := (1 : Int32)) hx hb dX6_back_18 (by decide) ?_
    refine lv_iand hx hb dX6_back_19 ?_
    refine lv_if_ne (tgt := 26) hx hb dX6_back_20 (by decide) (fun h_3 => ?_) (fun h_3 => ?_)
    · replace hT := mx_f hT h_3
      refine lv_aload_n hx hb dX6_back_26 rfl (lv_at hl 0 rfl) ?_
      obtain ⟨q_4, h_q_4, hT⟩ := mx_bind hT
      refine mx_callV (As := []) (rest := []) (st1 := []) (C := RX6) (T := TX6) (N := 11) (ci := 6) X Z hl.1 (c6_record l E hJ hc _ _ h_q_4) wd_12_22 wd_12_23 wd_13_0 wd_1_5 wd_13_1 hd6_record ⟨Nat.le_trans (by decide) hR.1, Nat.le_trans (by decide) hR.2⟩ ⟨Nat.zero_le _, Nat.zero_le _⟩ hc.i (hc.c _) rfl (Nat.le_of_ble_eq_true rfl) rfl rfl dX6_back_27 (fun H locs Z => ?_)
      refine lv_aload_n hx hb dX6_back_30 rfl (lv_at hl 0 rfl) ?_
      refine lv_aload_n hx hb dX6_back_31 rfl (lv_at hl 0 rfl) ?_
      refine mx_get (v := .ref (mad E (250))) (ci := 6) (C := RX6) (T := TX6) (N := 11) X Z hc.i (hc.c _) rfl inlX6 5 (by decide) wd_8_2 rfl dX6_back_32 ?_
      refine lv_bipush (v := (82 : Int32)) hx hb dX6_back_35 (by decide) ?_
      refine lv_iload_n hx hb dX6_back_37 rfl (lv_at hl 1 rfl) ?_
      refine lv_imul hx hb dX6_back_38 ?_
      refine lv_aload_n hx hb dX6_back_39 rfl (lv_at hl 0 rfl) ?_
      refine mx_get (v := .ref (mad E (247))) (ci := 6) (C := RX6) (T := TX6) (N := 11) X Z hc.i (hc.c _) rfl inlX6 0 (by decide) wd_7_23 rfl dX6_back_40 ?_
      refine lv_iconst (v := (0 : Int32)) hx hb dX6_back_43 (by decide) ?_
      obtain ⟨q_5, h_q_5, hT⟩ := mx_bind hT
      refine mx_callV (As := [.ref (mad E (250)), .int (((82 : Int32)) * x1), .ref (mad E (247)), .int ((0 : Int32))]) (rest := []) (st1 := []) (C := RX6) (T := TX6) (N := 11) (ci := 6) X Z hl.1 (c6_copy l E hJ hc hc.images hc.z _ _ _ _ h_q_5) wd_13_3 wd_13_4 wd_13_5 wd_1_5 wd_13_6 hd6_copy ⟨Nat.le_trans (by decide) hR.1, Nat.le_trans (by decide) hR.2⟩ ⟨Nat.zero_le _, Nat.zero_le _⟩ hc.i (hc.c _) rfl (Nat.le_of_ble_eq_true rfl) rfl rfl dX6_back_44 (fun H locs Z => ?_)
      refine lv_aload_n hx hb dX6_back_47 rfl (lv_at hl 0 rfl) ?_
      refine mx_get (v := .ref (mad E (247))) (ci := 6) (C := RX6) (T := TX6) (N := 11) X Z hc.i (hc.c _) rfl inlX6 0 (by decide) wd_7_23 rfl dX6_back_48 ?_
      refine lv_bipush (v := (74 : Int32)) hx hb dX6_back_51 (by decide) ?_
      refine mx_iald X Z hc.z (mx_lit (by decide)) dX6_back_53 ?_
      refine mx_tops (s2 := [.int (q_5 247 74)]) rfl ?_
      cases hT
      exact W.iret hx hb hr (fun t ht hW => mx_end Z t ht _) Z.2.2.2 dX6_back_54
    · replace hT := mx_t hT h_3
      refine lv_bipush (v := (-3 : Int32)) hx hb dX6_back_23 (by decide) ?_
      cases hT
      exact W.iret hx hb hr (fun t ht hW => mx_end Z t ht _) Z.2.2.2 dX6_back_25
  · replace hT := mx_t hT h_2
    refine lv_bipush (v := (-2 : Int32)) hx hb dX6_back_9 (by decide) ?_
    cases hT
    exact W.iret hx hb hr (fun t ht hW => mx_end Z t ht _) Z.2.2.2 dX6_back_11
