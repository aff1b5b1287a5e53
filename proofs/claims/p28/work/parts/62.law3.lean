/-! PeatRailwayLaw.lay -/
def xL_lay_L44 (y1 : Int32) (y2 : Int32) (y4 : Nat) (n4 : Nat) (y6 : Int32) : Nat → Int32 → Int32 → mM → Option (Nat × mM)
  | 0, _, _, _ => none
  | n + 1, w7, w8, G =>
    if y6 ≤ w8 then
      some (0, G)
    else
      (x5_fault G).bind fun q_13 =>
      if q_13 = w7 then
        (xL_at (y2 >>> ((20 : Int32) &&& 31)) ((2 : Int32)) G).bind fun q_15 =>
        if q_15 = 0 then
          (xL_at ((y2 >>> (((2 : Int32)) * w8 &&& 31)) + w8) ((10 : Int32)) G).bind fun q_120 =>
          mCk (mIn (((3 : Int32)) * w8) n4) <|
          mNm (up2 G y4 ((((3 : Int32)) * w8).toNatClampNeg) q_120) fun G_122 =>
          (xL_at ((y1 >>> ((((2 : Int32)) * w8) + ((3 : Int32)) &&& 31)) + w8) ((3 : Int32)) G_122).bind fun q_123 =>
          if q_123 = 0 then
            mCk (mIn ((((3 : Int32)) * w8) + ((1 : Int32))) n4) <|
            mNm (up2 G_122 y4 (((((3 : Int32)) * w8) + ((1 : Int32))).toNatClampNeg) ((1 : Int32))) fun G_175 =>
            mCk (mIn ((((3 : Int32)) * w8) + ((2 : Int32))) n4) <|
            mNm (up2 G_175 y4 (((((3 : Int32)) * w8) + ((2 : Int32))).toNatClampNeg) ((0 : Int32))) fun G_177 =>
            mCk (mIn (((3 : Int32)) * w8) n4) <|
            (x5_type (((48 : Int32)) + (G_177 y4 ((((3 : Int32)) * w8).toNatClampNeg))) G_177).bind fun q_179 =>
            mNm (w7 + (1 : Int32)) fun v_180 =>
            if q_179.1 = v_180 then
              mCk (mIn ((((3 : Int32)) * w8) + ((1 : Int32))) n4) <|
              if (q_179.2 y4 (((((3 : Int32)) * w8) + ((1 : Int32))).toNatClampNeg)) = ((1 : Int32)) then
                (x5_type ((112 : Int32)) q_179.2).bind fun q_202 =>
                mNm (v_180 + (1 : Int32)) fun v_203 =>
                if q_202.1 = v_203 then
                  if w8 = (y6 - ((1 : Int32))) then
                    mNm (w8 + (1 : Int32)) fun v_222 =>
                    xL_lay_L44 y1 y2 y4 n4 y6 n v_203 v_222 q_202.2
                  else
                    (xL_at (y2 >>> (w8 &&& 31)) ((6 : Int32)) q_202.2).bind fun q_206 =>
                    if q_206 = 0 then
                      (x5_type ((53 : Int32)) q_202.2).bind fun q_212 =>
                      if q_212.1 = (v_203 + ((1 : Int32))) then
                        (x5_fault q_212.2).bind fun q_214 =>
                        if q_214 = v_203 then
                          (xL_again w8 y4 n4 q_212.2).bind fun q_216 =>
                          if q_216.1 = 0 then
                            some (3, q_216.2)
                          else
                            (x5_type ((44 : Int32)) q_216.2).bind fun q_218 =>
                            mNm (v_203 + (1 : Int32)) fun v_219 =>
                            if q_218.1 = v_219 then
                              mNm (w8 + (1 : Int32)) fun v_221 =>
                              xL_lay_L44 y1 y2 y4 n4 y6 n v_219 v_221 q_218.2
                            else
                              some (4, q_218.2)
                        else
                          some (3, q_212.2)
                      else
                        some (3, q_212.2)
                    else
                      (x5_type ((44 : Int32)) q_202.2).bind fun q_208 =>
                      mNm (v_203 + (1 : Int32)) fun v_209 =>
                      if q_208.1 = v_209 then
                        mNm (w8 + (1 : Int32)) fun v_211 =>
                        xL_lay_L44 y1 y2 y4 n4 y6 n v_209 v_211 q_208.2
                      else
                        some (4, q_208.2)
                else
                  some (2, q_202.2)
              else
                if w8 = (y6 - ((1 : Int32))) then
                  mNm (w8 + (1 : Int32)) fun v_201 =>
                  xL_lay_L44 y1 y2 y4 n4 y6 n v_180 v_201 q_179.2
                else
                  (xL_at (y2 >>> (w8 &&& 31)) ((6 : Int32)) q_179.2).bind fun q_185 =>
                  if q_185 = 0 then
                    (x5_type ((53 : Int32)) q_179.2).bind fun q_191 =>
                    if q_191.1 = (v_180 + ((1 : Int32))) then
                      (x5_fault q_191.2).bind fun q_193 =>
                      if q_193 = v_180 then
                        (xL_again w8 y4 n4 q_191.2).bind fun q_195 =>
                        if q_195.1 = 0 then
                          some (3, q_195.2)
                        else
                          (x5_type ((44 : Int32)) q_195.2).bind fun q_197 =>
                          mNm (v_180 + (1 : Int32)) fun v_198 =>
                          if q_197.1 = v_198 then
                            mNm (w8 + (1 : Int32)) fun v_200 =>
                            xL_lay_L44 y1 y2 y4 n4 y6 n v_198 v_200 q_197.2
                          else
                            some (4, q_197.2)
                      else
                        some (3, q_191.2)
                    else
                      some (3, q_191.2)
                  else
                    (x5_type ((44 : Int32)) q_179.2).bind fun q_187 =>
                    mNm (v_180 + (1 : Int32)) fun v_188 =>
                    if q_187.1 = v_188 then
                      mNm (w8 + (1 : Int32)) fun v_190 =>
                      xL_lay_L44 y1 y2 y4 n4 y6 n v_188 v_190 q_187.2
                    else
                      some (4, q_187.2)
            else
              some (2, q_179.2)
          else
            mCk (mIn ((((3 : Int32)) * w8) + ((1 : Int32))) n4) <|
            mNm (up2 G_122 y4 (((((3 : Int32)) * w8) + ((1 : Int32))).toNatClampNeg) ((0 : Int32))) fun G_126 =>
            mCk (mIn ((((3 : Int32)) * w8) + ((2 : Int32))) n4) <|
            mNm (up2 G_126 y4 (((((3 : Int32)) * w8) + ((2 : Int32))).toNatClampNeg) ((0 : Int32))) fun G_128 =>
            mCk (mIn (((3 : Int32)) * w8) n4) <|
            (x5_type (((48 : Int32)) + (G_128 y4 ((((3 : Int32)) * w8).toNatClampNeg))) G_128).bind fun q_130 =>
            mNm (w7 + (1 : Int32)) fun v_131 =>
            if q_130.1 = v_131 then
              mCk (mIn ((((3 : Int32)) * w8) + ((1 : Int32))) n4) <|
              if (q_130.2 y4 (((((3 : Int32)) * w8) + ((1 : Int32))).toNatClampNeg)) = ((1 : Int32)) then
                (x5_type ((112 : Int32)) q_130.2).bind fun q_153 =>
                mNm (v_131 + (1 : Int32)) fun v_154 =>
                if q_153.1 = v_154 then
                  if w8 = (y6 - ((1 : Int32))) then
                    mNm (w8 + (1 : Int32)) fun v_173 =>
                    xL_lay_L44 y1 y2 y4 n4 y6 n v_154 v_173 q_153.2
                  else
                    (xL_at (y2 >>> (w8 &&& 31)) ((6 : Int32)) q_153.2).bind fun q_157 =>
                    if q_157 = 0 then
                      (x5_type ((53 : Int32)) q_153.2).bind fun q_163 =>
                      if q_163.1 = (v_154 + ((1 : Int32))) then
                        (x5_fault q_163.2).bind fun q_165 =>
                        if q_165 = v_154 then
                          (xL_again w8 y4 n4 q_163.2).bind fun q_167 =>
                          if q_167.1 = 0 then
                            some (3, q_167.2)
                          else
                            (x5_type ((44 : Int32)) q_167.2).bind fun q_169 =>
                            mNm (v_154 + (1 : Int32)) fun v_170 =>
                            if q_169.1 = v_170 then
                              mNm (w8 + (1 : Int32)) fun v_172 =>
                              xL_lay_L44 y1 y2 y4 n4 y6 n v_170 v_172 q_169.2
                            else
                              some (4, q_169.2)
                        else
                          some (3, q_163.2)
                      else
                        some (3, q_163.2)
                    else
                      (x5_type ((44 : Int32)) q_153.2).bind fun q_159 =>
                      mNm (v_154 + (1 : Int32)) fun v_160 =>
                      if q_159.1 = v_160 then
                        mNm (w8 + (1 : Int32)) fun v_162 =>
                        xL_lay_L44 y1 y2 y4 n4 y6 n v_160 v_162 q_159.2
                      else
                        some (4, q_159.2)
                else
                  some (2, q_153.2)
              else
                if w8 = (y6 - ((1 : Int32))) then
                  mNm (w8 + (1 : Int32)) fun v_152 =>
                  xL_lay_L44 y1 y2 y4 n4 y6 n v_131 v_152 q_130.2
                else
                  (xL_at (y2 >>> (w8 &&& 31)) ((6 : Int32)) q_130.2).bind fun q_136 =>
                  if q_136 = 0 then
                    (x5_type ((53 : Int32)) q_130.2).bind fun q_142 =>
                    if q_142.1 = (v_131 + ((1 : Int32))) then
                      (x5_fault q_142.2).bind fun q_144 =>
                      if q_144 = v_131 then
                        (xL_again w8 y4 n4 q_142.2).bind fun q_146 =>
                        if q_146.1 = 0 then
                          some (3, q_146.2)
                        else
                          (x5_type ((44 : Int32)) q_146.2).bind fun q_148 =>
                          mNm (v_131 + (1 : Int32)) fun v_149 =>
                          if q_148.1 = v_149 then
                            mNm (w8 + (1 : Int32)) fun v_151 =>
                            xL_lay_L44 y1 y2 y4 n4 y6 n v_149 v_151 q_148.2
                          else
                            some (4, q_148.2)
                      else
                        some (3, q_142.2)
                    else
                      some (3, q_142.2)
                  else
                    (x5_type ((44 : Int32)) q_130.2).bind fun q_138 =>
                    mNm (v_131 + (1 : Int32)) fun v_139 =>
                    if q_138.1 = v_139 then
                      mNm (w8 + (1 : Int32)) fun v_141 =>
                      xL_lay_L44 y1 y2 y4 n4 y6 n v_139 v_141 q_138.2
                    else
                      some (4, q_138.2)
            else
              some (2, q_130.2)
        else
          (xL_at ((y2 >>> (((2 : Int32)) * w8 &&& 31)) + w8) ((4 : Int32)) G).bind fun q_17 =>
          mCk (mIn (((3 : Int32)) * w8) n4) <|
          mNm (up2 G y4 ((((3 : Int32)) * w8).toNatClampNeg) q_17) fun G_19 =>
          (xL_at ((y1 >>> ((((2 : Int32)) * w8) + ((3 : Int32)) &&& 31)) + w8) ((3 : Int32)) G_19).bind fun q_20 =>
          if q_20 = 0 then
            mCk (mIn ((((3 : Int32)) * w8) + ((1 : Int32))) n4) <|
            mNm (up2 G_19 y4 (((((3 : Int32)) * w8) + ((1 : Int32))).toNatClampNeg) ((1 : Int32))) fun G_72 =>
            mCk (mIn ((((3 : Int32)) * w8) + ((2 : Int32))) n4) <|
            mNm (up2 G_72 y4 (((((3 : Int32)) * w8) + ((2 : Int32))).toNatClampNeg) ((0 : Int32))) fun G_74 =>
            mCk (mIn (((3 : Int32)) * w8) n4) <|
            (x5_type (((48 : Int32)) + (G_74 y4 ((((3 : Int32)) * w8).toNatClampNeg))) G_74).bind fun q_76 =>
            mNm (w7 + (1 : Int32)) fun v_77 =>
            if q_76.1 = v_77 then
              mCk (mIn ((((3 : Int32)) * w8) + ((1 : Int32))) n4) <|
              if (q_76.2 y4 (((((3 : Int32)) * w8) + ((1 : Int32))).toNatClampNeg)) = ((1 : Int32)) then
                (x5_type ((112 : Int32)) q_76.2).bind fun q_99 =>
                mNm (v_77 + (1 : Int32)) fun v_100 =>
                if q_99.1 = v_100 then
                  if w8 = (y6 - ((1 : Int32))) then
                    mNm (w8 + (1 : Int32)) fun v_119 =>
                    xL_lay_L44 y1 y2 y4 n4 y6 n v_100 v_119 q_99.2
                  else
                    (xL_at (y2 >>> (w8 &&& 31)) ((6 : Int32)) q_99.2).bind fun q_103 =>
                    if q_103 = 0 then
                      (x5_type ((53 : Int32)) q_99.2).bind fun q_109 =>
                      if q_109.1 = (v_100 + ((1 : Int32))) then
                        (x5_fault q_109.2).bind fun q_111 =>
                        if q_111 = v_100 then
                          (xL_again w8 y4 n4 q_109.2).bind fun q_113 =>
                          if q_113.1 = 0 then
                            some (3, q_113.2)
                          else
                            (x5_type ((44 : Int32)) q_113.2).bind fun q_115 =>
                            mNm (v_100 + (1 : Int32)) fun v_116 =>
                            if q_115.1 = v_116 then
                              mNm (w8 + (1 : Int32)) fun v_118 =>
                              xL_lay_L44 y1 y2 y4 n4 y6 n v_116 v_118 q_115.2
                            else
                              some (4, q_115.2)
                        else
                          some (3, q_109.2)
                      else
                        some (3, q_109.2)
                    else
                      (x5_type ((44 : Int32)) q_99.2).bind fun q_105 =>
                      mNm (v_100 + (1 : Int32)) fun v_106 =>
                      if q_105.1 = v_106 then
                        mNm (w8 + (1 : Int32)) fun v_108 =>
                        xL_lay_L44 y1 y2 y4 n4 y6 n v_106 v_108 q_105.2
                      else
                        some (4, q_105.2)
                else
                  some (2, q_99.2)
              else
                if w8 = (y6 - ((1 : Int32))) then
                  mNm (w8 + (1 : Int32)) fun v_98 =>
                  xL_lay_L44 y1 y2 y4 n4 y6 n v_77 v_98 q_76.2
                else
                  (xL_at (y2 >>> (w8 &&& 31)) ((6 : Int32)) q_76.2).bind fun q_82 =>
                  if q_82 = 0 then
                    (x5_type ((53 : Int32)) q_76.2).bind fun q_88 =>
                    if q_88.1 = (v_77 + ((1 : Int32))) then
                      (x5_fault q_88.2).bind fun q_90 =>
                      if q_90 = v_77 then
                        (xL_again w8 y4 n4 q_88.2).bind fun q_92 =>
                        if q_92.1 = 0 then
                          some (3, q_92.2)
                        else
                          (x5_type ((44 : Int32)) q_92.2).bind fun q_94 =>
                          mNm (v_77 + (1 : Int32)) fun v_95 =>
                          if q_94.1 = v_95 then
                            mNm (w8 + (1 : Int32)) fun v_97 =>
                            xL_lay_L44 y1 y2 y4 n4 y6 n v_95 v_97 q_94.2
                          else
                            some (4, q_94.2)
                      else
                        some (3, q_88.2)
                    else
                      some (3, q_88.2)
                  else
                    (x5_type ((44 : Int32)) q_76.2).bind fun q_84 =>
                    mNm (v_77 + (1 : Int32)) fun v_85 =>
                    if q_84.1 = v_85 then
                      mNm (w8 + (1 : Int32)) fun v_87 =>
                      xL_lay_L44 y1 y2 y4 n4 y6 n v_85 v_87 q_84.2
                    else
                      some (4, q_84.2)
            else
              some (2, q_76.2)
          else
            mCk (mIn ((((3 : Int32)) * w8) + ((1 : Int32))) n4) <|
            mNm (up2 G_19 y4 (((((3 : Int32)) * w8) + ((1 : Int32))).toNatClampNeg) ((0 : Int32))) fun G_23 =>
            mCk (mIn ((((3 : Int32)) * w8) + ((2 : Int32))) n4) <|
            mNm (up2 G_23 y4 (((((3 : Int32)) * w8) + ((2 : Int32))).toNatClampNeg) ((0 : Int32))) fun G_25 =>
            mCk (mIn (((3 : Int32)) * w8) n4) <|
            (x5_type (((48 : Int32)) + (G_25 y4 ((((3 : Int32)) * w8).toNatClampNeg))) G_25).bind fun q_27 =>
            mNm (w7 + (1 : Int32)) fun v_28 =>
            if q_27.1 = v_28 then
              mCk (mIn ((((3 : Int32)) * w8) + ((1 : Int32))) n4) <|
              if (q_27.2 y4 (((((3 : Int32)) * w8) + ((1 : Int32))).toNatClampNeg)) = ((1 : Int32)) then
                (x5_type ((112 : Int32)) q_27.2).bind fun q_50 =>
                mNm (v_28 + (1 : Int32)) fun v_51 =>
                if q_50.1 = v_51 then
                  if w8 = (y6 - ((1 : Int32))) then
                    mNm (w8 + (1 : Int32)) fun v_70 =>
                    xL_lay_L44 y1 y2 y4 n4 y6 n v_51 v_70 q_50.2
                  else
                    (xL_at (y2 >>> (w8 &&& 31)) ((6 : Int32)) q_50.2).bind fun q_54 =>
                    if q_54 = 0 then
                      (x5_type ((53 : Int32)) q_50.2).bind fun q_60 =>
                      if q_60.1 = (v_51 + ((1 : Int32))) then
                        (x5_fault q_60.2).bind fun q_62 =>
                        if q_62 = v_51 then
                          (xL_again w8 y4 n4 q_60.2).bind fun q_64 =>
                          if q_64.1 = 0 then
                            some (3, q_64.2)
                          else
                            (x5_type ((44 : Int32)) q_64.2).bind fun q_66 =>
                            mNm (v_51 + (1 : Int32)) fun v_67 =>
                            if q_66.1 = v_67 then
                              mNm (w8 + (1 : Int32)) fun v_69 =>
                              xL_lay_L44 y1 y2 y4 n4 y6 n v_67 v_69 q_66.2
                            else
                              some (4, q_66.2)
                        else
                          some (3, q_60.2)
                      else
                        some (3, q_60.2)
                    else
                      (x5_type ((44 : Int32)) q_50.2).bind fun q_56 =>
                      mNm (v_51 + (1 : Int32)) fun v_57 =>
                      if q_56.1 = v_57 then
                        mNm (w8 + (1 : Int32)) fun v_59 =>
                        xL_lay_L44 y1 y2 y4 n4 y6 n v_57 v_59 q_56.2
                      else
                        some (4, q_56.2)
                else
                  some (2, q_50.2)
              else
                if w8 = (y6 - ((1 : Int32))) then
                  mNm (w8 + (1 : Int32)) fun v_49 =>
                  xL_lay_L44 y1 y2 y4 n4 y6 n v_28 v_49 q_27.2
                else
                  (xL_at (y2 >>> (w8 &&& 31)) ((6 : Int32)) q_27.2).bind fun q_33 =>
                  if q_33 = 0 then
                    (x5_type ((53 : Int32)) q_27.2).bind fun q_39 =>
                    if q_39.1 = (v_28 + ((1 : Int32))) then
                      (x5_fault q_39.2).bind fun q_41 =>
                      if q_41 = v_28 then
                        (xL_again w8 y4 n4 q_39.2).bind fun q_43 =>
                        if q_43.1 = 0 then
                          some (3, q_43.2)
                        else
                          (x5_type ((44 : Int32)) q_43.2).bind fun q_45 =>
                          mNm (v_28 + (1 : Int32)) fun v_46 =>
                          if q_45.1 = v_46 then
                            mNm (w8 + (1 : Int32)) fun v_48 =>
                            xL_lay_L44 y1 y2 y4 n4 y6 n v_46 v_48 q_45.2
                          else
                            some (4, q_45.2)
                      else
                        some (3, q_39.2)
                    else
                      some (3, q_39.2)
                  else
                    (x5_type ((44 : Int32)) q_27.2).bind fun q_35 =>
                    mNm (v_28 + (1 : Int32)) fun v_36 =>
                    if q_35.1 = v_36 then
                      mNm (w8 + (1 : Int32)) fun v_38 =>
                      xL_lay_L44 y1 y2 y4 n4 y6 n v_36 v_38 q_35.2
                    else
                      some (4, q_35.2)
            else
              some (2, q_27.2)
      else
        some (1, G)
def xL_lay (x1 : Int32) (x2 : Int32) (a3 : Nat) (n3 : Nat) (a4 : Nat) (n4 : Nat) (a5 : Nat) (n5 : Nat) (G : mM) : Option (Int32 × mM) :=
  (xL_at x1 ((6 : Int32)) G).bind fun q_1 =>
  mNm (((3 : Int32)) + q_1) fun v_2 =>
  (x5_clear G).bind fun q_3 =>
  mCk (mIn ((8 : Int32)) n3) <|
  (xL_sum ((2 : Int32)) a3 n3 a5 n5 q_3.2).bind fun q_5 =>
  mCk (mIn ((8 : Int32)) n3) <|
  mNm (up2 q_3.2 a3 (((8 : Int32)).toNatClampNeg) ((q_3.2 a3 (((8 : Int32)).toNatClampNeg)) + q_5)) fun G_7 =>
  mCk (mIn ((0 : Int32)) n3) <|
  mNm (up2 G_7 a3 (((0 : Int32)).toNatClampNeg) v_2) fun G_9 =>
  mCk (mIn ((1 : Int32)) n3) <|
  mNm (up2 G_9 a3 (((1 : Int32)).toNatClampNeg) ((0 : Int32))) fun G_11 =>
  (xL_lay_L44 x1 x2 a4 n4 v_2 mFu ((0 : Int32)) ((0 : Int32)) G_11).bind fun q_223 =>
  if q_223.1 = 0 then
    (x5_fault q_223.2).bind fun q_224 =>
    if q_224 = ((-1 : Int32)) then
      (x5_layTrack q_223.2).bind fun q_226 =>
      if q_226.1 = v_2 then
        (x5_clear q_226.2).bind fun q_228 =>
        if q_228.1 = 0 then
          some ((1 : Int32), q_228.2)
        else
          some ((0 : Int32), q_228.2)
      else
        some ((0 : Int32), q_226.2)
    else
      some ((0 : Int32), q_223.2)
  else
    if q_223.1 = 1 then
      some ((0 : Int32), q_223.2)
    else
      if q_223.1 = 2 then
        some ((0 : Int32), q_223.2)
      else
        if q_223.1 = 3 then
          some ((0 : Int32), q_223.2)
        else
          some ((0 : Int32), q_223.2)
theorem hdL_lay : yL_lay.cls ≠ "java/lang/invoke/MethodHandle" ∧ yL_lay.cls ≠ "java/lang/invoke/VarHandle" ∧ (parseMethodDescriptor yL_lay.desc).map (fun d => d.parameters.length) = some 6 := by decide +kernel
set_option maxHeartbeats 4000000 in
set_option maxRecDepth 100000 in
theorem kL_lay_44 {p : Program} {l : Launch} {e : Env} {R : Room} {s : State} {m : MethodId} {args : Array Value} {below : List Frame} {meth : Method} {cd : Code} {Q : State → Prop} {E : mE} (X : mX p s m args cd cL_lay 9 RL E) (hR : 4 ≤ R.frames ∧ 89 ≤ R.locals) (hJ : mJ E) {y4 : Nat} {n4 : Nat} (hy0 : mAl E 240) (hy4 : mAi E y4 1 n4) (y1 : Int32) (y2 : Int32) (y6 : Int32) : ∀ (n : Nat) (w7 : Int32) (w8 : Int32) (G : mM) (H : Heap) (locs : List Loc) (ls : Array Slot) (r : Nat × mM), xL_lay_L44 y1 y2 y4 n4 y6 n w7 w8 G = some r → mZ E s.heap H locs G → lv_has ls 9 [(0, .ref (mad E (240))), (1, .int (y1)), (2, .int (y2)), (4, .ref (mad E (y4))), (6, .int (y6)), (7, .int (w7)), (8, .int (w8))] → (r.1 = 0 → ∀ (H : Heap) (locs : List Loc) (ls : Array Slot), mZ E s.heap H locs r.2 → lv_has ls 9 [(0, .ref (mad E (240))), (1, .int (y1)), (2, .int (y2)), (4, .ref (mad E (y4))), (6, .int (y6))] → W p l e R s m args below meth cd H locs 0 0 Q (F0 m 272 ls [])) → (r.1 = 1 → ∀ (H : Heap) (locs : List Loc) (ls : Array Slot), mZ E s.heap H locs r.2 → lv_has ls 9 [(0, .ref (mad E (240))), (1, .int (y1)), (2, .int (y2)), (4, .ref (mad E (y4))), (6, .int (y6))] → W p l e R s m args below meth cd H locs 0 0 Q (F0 m 60 ls [])) → (r.1 = 2 → ∀ (H : Heap) (locs : List Loc) (ls : Array Slot), mZ E s.heap H locs r.2 → lv_has ls 9 [(0, .ref (mad E (240))), (1, .int (y1)), (2, .int (y2)), (4, .ref (mad E (y4))), (6, .int (y6))] → W p l e R s m args below meth cd H locs 0 0 Q (F0 m 189 ls [])) → (r.1 = 3 → ∀ (H : Heap) (locs : List Loc) (ls : Array Slot), mZ E s.heap H locs r.2 → lv_has ls 9 [(0, .ref (mad E (240))), (1, .int (y1)), (2, .int (y2)), (4, .ref (mad E (y4))), (6, .int (y6))] → W p l e R s m args below meth cd H locs 0 0 Q (F0 m 248 ls [])) → (r.1 = 4 → ∀ (H : Heap) (locs : List Loc) (ls : Array Slot), mZ E s.heap H locs r.2 → lv_has ls 9 [(0, .ref (mad E (240))), (1, .int (y1)), (2, .int (y2)), (4, .ref (mad E (y4))), (6, .int (y6))] → W p l e R s m args below meth cd H locs 0 0 Q (F0 m 264 ls [])) → W p l e R s m args below meth cd H locs 0 0 Q (F0 m 44 ls []) := by
  have hx := X.1
  have hb := X.2.1
  have hown := X.2.2.2.1
  have hts := X.2.2.2.2.1
  intro n
  induction n with
  | zero =>
    intro w7 w8 G H locs ls r hT
    rw [xL_lay_L44] at hT
    cases hT
  | succ n ih =>
    intro w7 w8 G H locs ls r hT Z hl k0 k1 k2 k3 k4
    rw [xL_lay_L44] at hT
    refine lv_iload hx hb dL_lay_44 (lv_at hl 6 rfl) ?_
    refine lv_iload hx hb dL_lay_46 (lv_at hl 4 rfl) ?_
    refine lv_icmp_ge (tgt := 272) hx hb dL_lay_48 (by decide) (fun h_12 => ?_) (fun h_12 => ?_)
    · replace hT := mx_t hT h_12
      cases hT
      exact k0 rfl _ _ _ Z (lv_sub hl [0, 1, 2, 3, 4] rfl)
    · replace hT := mx_f hT h_12
      refine lv_aload_n hx hb dL_lay_51 rfl (lv_at hl 0 rfl) ?_
      obtain ⟨q_13, h_q_13, hT⟩ := mx_bind hT
      refine mx_callV (As := []) (rest := []) (st1 := [.int (q_13)]) (C := RX5) (T := TX5) (N := 6) (ci := 5) X Z hl.1 (c5_fault l E hJ hy0 _ _ h_q_13) wd_21_11 wd_21_12 wd_21_13 wd_1_2 wd_21_14 hd5_fault ⟨Nat.le_trans (by decide) hR.1, Nat.le_trans (by decide) hR.2⟩ ⟨Nat.zero_le _, Nat.zero_le _⟩ hy0.i (hy0.c _) rfl (Nat.le_of_ble_eq_true rfl) rfl rfl dL_lay_52 (fun H locs Z => ?_)
      refine lv_iload hx hb dL_lay_55 (lv_at hl 5 rfl) ?_
      refine lv_icmp_eq (tgt := 62) hx hb dL_lay_57 (by decide) (fun h_14 => ?_) (fun h_14 => ?_)
      · replace hT := mx_t hT h_14
        refine lv_aload hx hb dL_lay_62 (lv_at hl 3 rfl) ?_
        refine lv_iconst (v := (3 : Int32)) hx hb dL_lay_64 (by decide) ?_
        refine lv_iload hx hb dL_lay_65 (lv_at hl 6 rfl) ?_
        refine lv_imul hx hb dL_lay_67 ?_
        refine lv_iload_n hx hb dL_lay_68 rfl (lv_at hl 2 rfl) ?_
        refine lv_iconst (v := (2 : Int32)) hx hb dL_lay_69 (by decide) ?_
        refine lv_iload hx hb dL_lay_70 (lv_at hl 6 rfl) ?_
        refine lv_imul hx hb dL_lay_72 ?_
        refine lv_ishr hx hb dL_lay_73 ?_
        refine lv_iload hx hb dL_lay_74 (lv_at hl 6 rfl) ?_
        refine lv_iadd hx hb dL_lay_76 ?_
        refine lv_iload_n hx hb dL_lay_77 rfl (lv_at hl 2 rfl) ?_
        refine lv_bipush (v := (20 : Int32)) hx hb dL_lay_78 (by decide) ?_
        refine lv_ishr hx hb dL_lay_80 ?_
        refine lv_iconst (v := (2 : Int32)) hx hb dL_lay_81 (by decide) ?_
        obtain ⟨q_15, h_q_15, hT⟩ := mx_bind hT
        refine mx_callS (As := [.int (y2 >>> ((20 : Int32) &&& 31)), .int ((2 : Int32))]) (rest := [.int ((y2 >>> (((2 : Int32)) * w8 &&& 31)) + w8), .int (((3 : Int32)) * w8), .ref (mad E (y4))]) (st1 := [.int (q_15), .int ((y2 >>> (((2 : Int32)) * w8 &&& 31)) + w8), .int (((3 : Int32)) * w8), .ref (mad E (y4))]) X Z hl.1 (mL_at l E hJ _ _ _ _ h_q_15) wd_17_3 wd_17_4 wd_10_7 wd_17_5 hdL_at ⟨Nat.le_trans (by decide) hR.1, Nat.le_trans (by decide) hR.2⟩ ⟨Nat.zero_le _, Nat.zero_le _⟩ (Nat.le_of_ble_eq_true rfl) rfl rfl dL_lay_82 (fun H locs Z => ?_)
        refine lv_if_ne (tgt := 93) hx hb dL_lay_85 (by decide) (fun h_16 => ?_) (fun h_16 => ?_)
        · replace hT := mx_f hT h_16
          refine lv_iconst (v := (4 : Int32)) hx hb dL_lay_93 (by decide) ?_
          obtain ⟨q_17, h_q_17, hT⟩ := mx_bind hT
          refine mx_callS (As := [.int ((y2 >>> (((2 : Int32)) * w8 &&& 31)) + w8), .int ((4 : Int32))]) (rest := [.int (((3 : Int32)) * w8), .ref (mad E (y4))]) (st1 := [.int (q_17), .int (((3 : Int32)) * w8), .ref (mad E (y4))]) X Z hl.1 (mL_at l E hJ _ _ _ _ h_q_17) wd_17_3 wd_17_4 wd_10_7 wd_17_5 hdL_at ⟨Nat.le_trans (by decide) hR.1, Nat.le_trans (by decide) hR.2⟩ ⟨Nat.zero_le _, Nat.zero_le _⟩ (Nat.le_of_ble_eq_true rfl) rfl rfl dL_lay_94 (fun H locs Z => ?_)
          obtain ⟨h_18, hT⟩ := mx_chk hT
          obtain ⟨G_19, e_G_19, hT⟩ := mx_nm hT
          refine mx_iast X Z hy4 h_18 dL_lay_97 (fun H locs Z => ?_)
          rw [e_G_19] at Z
          refine lv_aload hx hb dL_lay_98 (lv_at hl 3 rfl) ?_
          refine lv_iconst (v := (3 : Int32)) hx hb dL_lay_100 (by decide) ?_
          refine lv_iload hx hb dL_lay_101 (lv_at hl 6 rfl) ?_
          refine lv_imul hx hb dL_lay_103 ?_
          refine lv_iconst (v := (1 : Int32)) hx hb dL_lay_104 (by decide) ?_
          refine lv_iadd hx hb dL_lay_105 ?_
          refine lv_iload_n hx hb dL_lay_106 rfl (lv_at hl 1 rfl) ?_
          refine lv_iconst (v := (2 : Int32)) hx hb dL_lay_107 (by decide) ?_
          refine lv_iload hx hb dL_lay_108 (lv_at hl 6 rfl) ?_
          refine lv_imul hx hb dL_lay_110 ?_
          refine lv_iconst (v := (3 : Int32)) hx hb dL_lay_111 (by decide) ?_
          refine lv_iadd hx hb dL_lay_112 ?_
          refine lv_ishr hx hb dL_lay_113 ?_
          refine lv_iload hx hb dL_lay_114 (lv_at hl 6 rfl) ?_
          refine lv_iadd hx hb dL_lay_116 ?_
          refine lv_iconst (v := (3 : Int32)) hx hb dL_lay_117 (by decide) ?_
          obtain ⟨q_20, h_q_20, hT⟩ := mx_bind hT
          refine mx_callS (As := [.int ((y1 >>> ((((2 : Int32)) * w8) + ((3 : Int32)) &&& 31)) + w8), .int ((3 : Int32))]) (rest := [.int ((((3 : Int32)) * w8) + ((1 : Int32))), .ref (mad E (y4))]) (st1 := [.int (q_20), .int ((((3 : Int32)) * w8) + ((1 : Int32))), .ref (mad E (y4))]) X Z hl.1 (mL_at l E hJ _ _ _ _ h_q_20) wd_17_3 wd_17_4 wd_10_7 wd_17_5 hdL_at ⟨Nat.le_trans (by decide) hR.1, Nat.le_trans (by decide) hR.2⟩ ⟨Nat.zero_le _, Nat.zero_le _⟩ (Nat.le_of_ble_eq_true rfl) rfl rfl dL_lay_118 (fun H locs Z => ?_)
          refine lv_if_ne (tgt := 128) hx hb dL_lay_121 (by decide) (fun h_21 => ?_) (fun h_21 => ?_)
          · replace hT := mx_f hT h_21
            refine lv_iconst (v := (0 : Int32)) hx hb dL_lay_128 (by decide) ?_
            obtain ⟨h_22, hT⟩ := mx_chk hT
            obtain ⟨G_23, e_G_23, hT⟩ := mx_nm hT
            refine mx_iast X Z hy4 h_22 dL_lay_129 (fun H locs Z => ?_)
            rw [e_G_23] at Z
            refine lv_aload hx hb dL_lay_130 (lv_at hl 3 rfl) ?_
            refine lv_iconst (v := (3 : Int32)) hx hb dL_lay_132 (by decide) ?_
            refine lv_iload hx hb dL_lay_133 (lv_at hl 6 rfl) ?_
            refine lv_imul hx hb dL_lay_135 ?_
            refine lv_iconst (v := (2 : Int32)) hx hb dL_lay_136 (by decide) ?_
            refine lv_iadd hx hb dL_lay_137 ?_
            refine lv_iconst (v := (0 : Int32)) hx hb dL_lay_138 (by decide) ?_
            obtain ⟨h_24, hT⟩ := mx_chk hT
            obtain ⟨G_25, e_G_25, hT⟩ := mx_nm hT
            refine mx_iast X Z hy4 h_24 dL_lay_139 (fun H locs Z => ?_)
            rw [e_G_25] at Z
            refine lv_aload_n hx hb dL_lay_140 rfl (lv_at hl 0 rfl) ?_
            refine lv_bipush (v := (48 : Int32)) hx hb dL_lay_141 (by decide) ?_
            refine lv_aload hx hb dL_lay_143 (lv_at hl 3 rfl) ?_
            refine lv_iconst (v := (3 : Int32)) hx hb dL_lay_145 (by decide) ?_
            refine lv_iload hx hb dL_lay_146 (lv_at hl 6 rfl) ?_
            refine lv_imul hx hb dL_lay_148 ?_
            obtain ⟨h_26, hT⟩ := mx_chk hT
            refine mx_iald X Z hy4 h_26 dL_lay_149 ?_
            refine lv_iadd hx hb dL_lay_150 ?_
            obtain ⟨q_27, h_q_27, hT⟩ := mx_bind hT
            refine mx_callV (As := [.int (((48 : Int32)) + (G_25 y4 ((((3 : Int32)) * w8).toNatClampNeg)))]) (rest := []) (st1 := [.int (q_27.1)]) (C := RX5) (T := TX5) (N := 6) (ci := 5) X Z hl.1 (c5_type l E hJ hy0 _ _ _ h_q_27) wd_21_19 wd_21_20 wd_21_21 wd_1_2 wd_21_22 hd5_type ⟨Nat.le_trans (by decide) hR.1, Nat.le_trans (by decide) hR.2⟩ ⟨Nat.zero_le _, Nat.zero_le _⟩ hy0.i (hy0.c _) rfl (Nat.le_of_ble_eq_true rfl) rfl rfl dL_lay_151 (fun H locs Z => ?_)
            obtain ⟨v_28, e_v_28, hT⟩ := mx_nm hT
            refine lv_iinc (v := v_28) (lv' := [(7, .int (v_28)), (0, .ref (mad E (240))), (1, .int (y1)), (2, .int (y2)), (4, .ref (mad E (y4))), (6, .int (y6)), (8, .int (w8))]) hx hb dL_lay_154 hl (k := 5) rfl (by rw [← e_v_28]; rfl) (by decide) rfl (fun ls hl => ?_)
            refine lv_iload hx hb dL_lay_157 (lv_at hl 0 rfl) ?_
            refine lv_icmp_ne (tgt := 189) hx hb dL_lay_159 (by decide) (fun h_29 => ?_) (fun h_29 => ?_)
            · replace hT := mx_f hT h_29
              cases hT
              exact k2 rfl _ _ _ Z (lv_sub hl [1, 2, 3, 4, 5] rfl)
            · replace hT := mx_t hT h_29
              refine lv_aload hx hb dL_lay_162 (lv_at hl 4 rfl) ?_
              refine lv_iconst (v := (3 : Int32)) hx hb dL_lay_164 (by decide) ?_
              refine lv_iload hx hb dL_lay_165 (lv_at hl 6 rfl) ?_
              refine lv_imul hx hb dL_lay_167 ?_
              refine lv_iconst (v := (1 : Int32)) hx hb dL_lay_168 (by decide) ?_
              refine lv_iadd hx hb dL_lay_169 ?_
              obtain ⟨h_30, hT⟩ := mx_chk hT
              refine mx_iald X Z hy4 h_30 dL_lay_170 ?_
              refine lv_iconst (v := (1 : Int32)) hx hb dL_lay_171 (by decide) ?_
              refine lv_icmp_ne (tgt := 191) hx hb dL_lay_172 (by decide) (fun h_31 => ?_) (fun h_31 => ?_)
              · replace hT := mx_f hT h_31
                refine lv_iload hx hb dL_lay_191 (lv_at hl 6 rfl) ?_
                refine lv_iload hx hb dL_lay_193 (lv_at hl 5 rfl) ?_
                refine lv_iconst (v := (1 : Int32)) hx hb dL_lay_195 (by decide) ?_
                refine lv_isub hx hb dL_lay_196 ?_
                refine lv_icmp_ne (tgt := 203) hx hb dL_lay_197 (by decide) (fun h_32 => ?_) (fun h_32 => ?_)
                · replace hT := mx_f hT h_32
                  refine lv_iload_n hx hb dL_lay_203 rfl (lv_at hl 3 rfl) ?_
                  refine lv_iload hx hb dL_lay_204 (lv_at hl 6 rfl) ?_
                  refine lv_ishr hx hb dL_lay_206 ?_
                  refine lv_bipush (v := (6 : Int32)) hx hb dL_lay_207 (by decide) ?_
                  obtain ⟨q_33, h_q_33, hT⟩ := mx_bind hT
                  refine mx_callS (As := [.int (y2 >>> (w8 &&& 31)), .int ((6 : Int32))]) (rest := []) (st1 := [.int (q_33)]) X Z hl.1 (mL_at l E hJ _ _ _ _ h_q_33) wd_17_3 wd_17_4 wd_10_7 wd_17_5 hdL_at ⟨Nat.le_trans (by decide) hR.1, Nat.le_trans (by decide) hR.2⟩ ⟨Nat.zero_le _, Nat.zero_le _⟩ (Nat.le_of_ble_eq_true rfl) rfl rfl dL_lay_209 (fun H locs Z => ?_)
                  refine lv_if_ne (tgt := 250) hx hb dL_lay_212 (by decide) (fun h_34 => ?_) (fun h_34 => ?_)
                  · replace hT := mx_f hT h_34
                    refine lv_aload_n hx hb dL_lay_250 rfl (lv_at hl 1 rfl) ?_
                    refine lv_bipush (v := (44 : Int32)) hx hb dL_lay_251 (by decide) ?_
                    obtain ⟨q_35, h_q_35, hT⟩ := mx_bind hT
                    refine mx_callV (As := [.int ((44 : Int32))]) (rest := []) (st1 := [.int (q_35.1)]) (C := RX5) (T := TX5) (N := 6) (ci := 5) X Z hl.1 (c5_type l E hJ hy0 _ _ _ h_q_35) wd_21_19 wd_21_20 wd_21_21 wd_1_2 wd_21_22 hd5_type ⟨Nat.le_trans (by decide) hR.1, Nat.le_trans (by decide) hR.2⟩ ⟨Nat.zero_le _, Nat.zero_le _⟩ hy0.i (hy0.c _) rfl (Nat.le_of_ble_eq_true rfl) rfl rfl dL_lay_253 (fun H locs Z => ?_)
                    obtain ⟨v_36, e_v_36, hT⟩ := mx_nm hT
                    refine lv_iinc (v := v_36) (lv' := [(7, .int (v_36)), (0, .ref (mad E (240))), (1, .int (y1)), (2, .int (y2)), (4, .ref (mad E (y4))), (6, .int (y6)), (8, .int (w8))]) hx hb dL_lay_256 hl (k := 0) rfl (by rw [← e_v_36]; rfl) (by decide) rfl (fun ls hl => ?_)
                    refine lv_iload hx hb dL_lay_259 (lv_at hl 0 rfl) ?_
                    refine lv_icmp_eq (tgt := 266) hx hb dL_lay_261 (by decide) (fun h_37 => ?_) (fun h_37 => ?_)
                    · replace hT := mx_t hT h_37
                      obtain ⟨v_38, e_v_38, hT⟩ := mx_nm hT
                      refine lv_iinc (v := v_38) (lv' := [(8, .int (v_38)), (7, .int (v_36)), (0, .ref (mad E (240))), (1, .int (y1)), (2, .int (y2)), (4, .ref (mad E (y4))), (6, .int (y6))]) hx hb dL_lay_266 hl (k := 6) rfl (by rw [← e_v_38]; rfl) (by decide) rfl (fun ls hl => ?_)
                      refine lv_goto (tgt := 44) hx hb dL_lay_269 (by decide) ?_
                      exact ih _ _ _ _ _ _ _ hT Z (lv_sub hl [2, 3, 4, 5, 6, 1, 0] rfl) k0 k1 k2 k3 k4
                    · replace hT := mx_f hT h_37
                      cases hT
                      exact k4 rfl _ _ _ Z (lv_sub hl [1, 2, 3, 4, 5] rfl)
                  · replace hT := mx_t hT h_34
                    refine lv_aload_n hx hb dL_lay_215 rfl (lv_at hl 1 rfl) ?_
                    refine lv_bipush (v := (53 : Int32)) hx hb dL_lay_216 (by decide) ?_
                    obtain ⟨q_39, h_q_39, hT⟩ := mx_bind hT
                    refine mx_callV (As := [.int ((53 : Int32))]) (rest := []) (st1 := [.int (q_39.1)]) (C := RX5) (T := TX5) (N := 6) (ci := 5) X Z hl.1 (c5_type l E hJ hy0 _ _ _ h_q_39) wd_21_19 wd_21_20 wd_21_21 wd_1_2 wd_21_22 hd5_type ⟨Nat.le_trans (by decide) hR.1, Nat.le_trans (by decide) hR.2⟩ ⟨Nat.zero_le _, Nat.zero_le _⟩ hy0.i (hy0.c _) rfl (Nat.le_of_ble_eq_true rfl) rfl rfl dL_lay_218 (fun H locs Z => ?_)
                    refine lv_iload hx hb dL_lay_221 (lv_at hl 0 rfl) ?_
                    refine lv_iconst (v := (1 : Int32)) hx hb dL_lay_223 (by decide) ?_
                    refine lv_iadd hx hb dL_lay_224 ?_
                    refine lv_icmp_ne (tgt := 248) hx hb dL_lay_225 (by decide) (fun h_40 => ?_) (fun h_40 => ?_)
                    · replace hT := mx_f hT h_40
                      cases hT
                      exact k3 rfl _ _ _ Z (lv_sub hl [1, 2, 3, 4, 5] rfl)
                    · replace hT := mx_t hT h_40
                      refine lv_aload_n hx hb dL_lay_228 rfl (lv_at hl 1 rfl) ?_
                      obtain ⟨q_41, h_q_41, hT⟩ := mx_bind hT
                      refine mx_callV (As := []) (rest := []) (st1 := [.int (q_41)]) (C := RX5) (T := TX5) (N := 6) (ci := 5) X Z hl.1 (c5_fault l E hJ hy0 _ _ h_q_41) wd_21_11 wd_21_12 wd_21_13 wd_1_2 wd_21_14 hd5_fault ⟨Nat.le_trans (by decide) hR.1, Nat.le_trans (by decide) hR.2⟩ ⟨Nat.zero_le _, Nat.zero_le _⟩ hy0.i (hy0.c _) rfl (Nat.le_of_ble_eq_true rfl) rfl rfl dL_lay_229 (fun H locs Z => ?_)
                      refine lv_iload hx hb dL_lay_232 (lv_at hl 0 rfl) ?_
                      refine lv_icmp_ne (tgt := 248) hx hb dL_lay_234 (by decide) (fun h_42 => ?_) (fun h_42 => ?_)
                      · replace hT := mx_f hT h_42
                        cases hT
                        exact k3 rfl _ _ _ Z (lv_sub hl [1, 2, 3, 4, 5] rfl)
                      · replace hT := mx_t hT h_42
                        refine lv_aload_n hx hb dL_lay_237 rfl (lv_at hl 1 rfl) ?_
                        refine lv_iload hx hb dL_lay_238 (lv_at hl 6 rfl) ?_
                        refine lv_aload hx hb dL_lay_240 (lv_at hl 4 rfl) ?_
                        obtain ⟨q_43, h_q_43, hT⟩ := mx_bind hT
                        refine mx_callS (As := [.ref (mad E (240)), .int (w8), .ref (mad E (y4))]) (rest := []) (st1 := [.int (q_43.1)]) X Z hl.1 (mL_again l E hJ hy0 hy4 _ _ _ h_q_43) wd_22_3 wd_22_4 wd_10_7 wd_22_5 hdL_again ⟨Nat.le_trans (by decide) hR.1, Nat.le_trans (by decide) hR.2⟩ ⟨Nat.zero_le _, Nat.zero_le _⟩ (Nat.le_of_ble_eq_true rfl) rfl rfl dL_lay_242 (fun H locs Z => ?_)
                        refine lv_if_ne (tgt := 250) hx hb dL_lay_245 (by decide) (fun h_44 => ?_) (fun h_44 => ?_)
                        · replace hT := mx_f hT h_44
                          refine lv_aload_n hx hb dL_lay_250 rfl (lv_at hl 1 rfl) ?_
                          refine lv_bipush (v := (44 : Int32)) hx hb dL_lay_251 (by decide) ?_
                          obtain ⟨q_45, h_q_45, hT⟩ := mx_bind hT
                          refine mx_callV (As := [.int ((44 : Int32))]) (rest := []) (st1 := [.int (q_45.1)]) (C := RX5) (T := TX5) (N := 6) (ci := 5) X Z hl.1 (c5_type l E hJ hy0 _ _ _ h_q_45) wd_21_19 wd_21_20 wd_21_21 wd_1_2 wd_21_22 hd5_type ⟨Nat.le_trans (by decide) hR.1, Nat.le_trans (by decide) hR.2⟩ ⟨Nat.zero_le _, Nat.zero_le _⟩ hy0.i (hy0.c _) rfl (Nat.le_of_ble_eq_true rfl) rfl rfl dL_lay_253 (fun H locs Z => ?_)
                          obtain ⟨v_46, e_v_46, hT⟩ := mx_nm hT
                          refine lv_iinc (v := v_46) (lv' := [(7, .int (v_46)), (0, .ref (mad E (240))), (1, .int (y1)), (2, .int (y2)), (4, .ref (mad E (y4))), (6, .int (y6)), (8, .int (w8))]) hx hb dL_lay_256 hl (k := 0) rfl (by rw [← e_v_46]; rfl) (by decide) rfl (fun ls hl => ?_)
                          refine lv_iload hx hb dL_lay_259 (lv_at hl 0 rfl) ?_
                          refine lv_icmp_eq (tgt := 266) hx hb dL_lay_261 (by decide) (fun h_47 => ?_) (fun h_47 => ?_)
                          · replace hT := mx_t hT h_47
                            obtain ⟨v_48, e_v_48, hT⟩ := mx_nm hT
                            refine lv_iinc (v := v_48) (lv' := [(8, .int (v_48)), (7, .int (v_46)), (0, .ref (mad E (240))), (1, .int (y1)), (2, .int (y2)), (4, .ref (mad E (y4))), (6, .int (y6))]) hx hb dL_lay_266 hl (k := 6) rfl (by rw [← e_v_48]; rfl) (by decide) rfl (fun ls hl => ?_)
                            refine lv_goto (tgt := 44) hx hb dL_lay_269 (by decide) ?_
                            exact ih _ _ _ _ _ _ _ hT Z (lv_sub hl [2, 3, 4, 5, 6, 1, 0] rfl) k0 k1 k2 k3 k4
                          · replace hT := mx_f hT h_47
                            cases hT
                            exact k4 rfl _ _ _ Z (lv_sub hl [1, 2, 3, 4, 5] rfl)
                        · replace hT := mx_t hT h_44
                          cases hT
                          exact k3 rfl _ _ _ Z (lv_sub hl [1, 2, 3, 4, 5] rfl)
                · replace hT := mx_t hT h_32
                  refine lv_goto (tgt := 266) hx hb dL_lay_200 (by decide) ?_
                  obtain ⟨v_49, e_v_49, hT⟩ := mx_nm hT
                  refine lv_iinc (v := v_49) (lv' := [(8, .int (v_49)), (7, .int (v_28)), (0, .ref (mad E (240))), (1, .int (y1)), (2, .int (y2)), (4, .ref (mad E (y4))), (6, .int (y6))]) hx hb dL_lay_266 hl (k := 6) rfl (by rw [← e_v_49]; rfl) (by decide) rfl (fun ls hl => ?_)
                  refine lv_goto (tgt := 44) hx hb dL_lay_269 (by decide) ?_
                  exact ih _ _ _ _ _ _ _ hT Z (lv_sub hl [2, 3, 4, 5, 6, 1, 0] rfl) k0 k1 k2 k3 k4
              · replace hT := mx_t hT h_31
                refine lv_aload_n hx hb dL_lay_175 rfl (lv_at hl 1 rfl) ?_
                refine lv_bipush (v := (112 : Int32)) hx hb dL_lay_176 (by decide) ?_
                obtain ⟨q_50, h_q_50, hT⟩ := mx_bind hT
                refine mx_callV (As := [.int ((112 : Int32))]) (rest := []) (st1 := [.int (q_50.1)]) (C := RX5) (T := TX5) (N := 6) (ci := 5) X Z hl.1 (c5_type l E hJ hy0 _ _ _ h_q_50) wd_21_19 wd_21_20 wd_21_21 wd_1_2 wd_21_22 hd5_type ⟨Nat.le_trans (by decide) hR.1, Nat.le_trans (by decide) hR.2⟩ ⟨Nat.zero_le _, Nat.zero_le _⟩ hy0.i (hy0.c _) rfl (Nat.le_of_ble_eq_true rfl) rfl rfl dL_lay_178 (fun H locs Z => ?_)
                obtain ⟨v_51, e_v_51, hT⟩ := mx_nm hT
                refine lv_iinc (v := v_51) (lv' := [(7, .int (v_51)), (0, .ref (mad E (240))), (1, .int (y1)), (2, .int (y2)), (4, .ref (mad E (y4))), (6, .int (y6)), (8, .int (w8))]) hx hb dL_lay_181 hl (k := 0) rfl (by rw [← e_v_51]; rfl) (by decide) rfl (fun ls hl => ?_)
                refine lv_iload hx hb dL_lay_184 (lv_at hl 0 rfl) ?_
                refine lv_icmp_eq (tgt := 191) hx hb dL_lay_186 (by decide) (fun h_52 => ?_) (fun h_52 => ?_)
                · replace hT := mx_t hT h_52
                  refine lv_iload hx hb dL_lay_191 (lv_at hl 6 rfl) ?_
                  refine lv_iload hx hb dL_lay_193 (lv_at hl 5 rfl) ?_
                  refine lv_iconst (v := (1 : Int32)) hx hb dL_lay_195 (by decide) ?_
                  refine lv_isub hx hb dL_lay_196 ?_
                  refine lv_icmp_ne (tgt := 203) hx hb dL_lay_197 (by decide) (fun h_53 => ?_) (fun h_53 => ?_)
                  · replace hT := mx_f hT h_53
                    refine lv_iload_n hx hb dL_lay_203 rfl (lv_at hl 3 rfl) ?_
                    refine lv_iload hx hb dL_lay_204 (lv_at hl 6 rfl) ?_
                    refine lv_ishr hx hb dL_lay_206 ?_
                    refine lv_bipush (v := (6 : Int32)) hx hb dL_lay_207 (by decide) ?_
                    obtain ⟨q_54, h_q_54, hT⟩ := mx_bind hT
                    refine mx_callS (As := [.int (y2 >>> (w8 &&& 31)), .int ((6 : Int32))]) (rest := []) (st1 := [.int (q_54)]) X Z hl.1 (mL_at l E hJ _ _ _ _ h_q_54) wd_17_3 wd_17_4 wd_10_7 wd_17_5 hdL_at ⟨Nat.le_trans (by decide) hR.1, Nat.le_trans (by decide) hR.2⟩ ⟨Nat.zero_le _, Nat.zero_le _⟩ (Nat.le_of_ble_eq_true rfl) rfl rfl dL_lay_209 (fun H locs Z => ?_)
                    refine lv_if_ne (tgt := 250) hx hb dL_lay_212 (by decide) (fun h_55 => ?_) (fun h_55 => ?_)
                    · replace hT := mx_f hT h_55
                      refine lv_aload_n hx hb dL_lay_250 rfl (lv_at hl 1 rfl) ?_
                      refine lv_bipush (v := (44 : Int32)) hx hb dL_lay_251 (by decide) ?_
                      obtain ⟨q_56, h_q_56, hT⟩ := mx_bind hT
                      refine mx_callV (As := [.int ((44 : Int32))]) (rest := []) (st1 := [.int (q_56.1)]) (C := RX5) (T := TX5) (N := 6) (ci := 5) X Z hl.1 (c5_type l E hJ hy0 _ _ _ h_q_56) wd_21_19 wd_21_20 wd_21_21 wd_1_2 wd_21_22 hd5_type ⟨Nat.le_trans (by decide) hR.1, Nat.le_trans (by decide) hR.2⟩ ⟨Nat.zero_le _, Nat.zero_le _⟩ hy0.i (hy0.c _) rfl (Nat.le_of_ble_eq_true rfl) rfl rfl dL_lay_253 (fun H locs Z => ?_)
                      obtain ⟨v_57, e_v_57, hT⟩ := mx_nm hT
                      refine lv_iinc (v := v_57) (lv' := [(7, .int (v_57)), (0, .ref (mad E (240))), (1, .int (y1)), (2, .int (y2)), (4, .ref (mad E (y4))), (6, .int (y6)), (8, .int (w8))]) hx hb dL_lay_256 hl (k := 0) rfl (by rw [← e_v_57]; rfl) (by decide) rfl (fun ls hl => ?_)
                      refine lv_iload hx hb dL_lay_259 (lv_at hl 0 rfl) ?_
                      refine lv_icmp_eq (tgt := 266) hx hb dL_lay_261 (by decide) (fun h_58 => ?_) (fun h_58 => ?_)
                      · replace hT := mx_t hT h_58
                        obtain ⟨v_59, e_v_59, hT⟩ := mx_nm hT
                        refine lv_iinc (v := v_59) (lv' := [(8, .int (v_59)), (7, .int (v_57)), (0, .ref (mad E (240))), (1, .int (y1)), (2, .int (y2)), (4, .ref (mad E (y4))), (6, .int (y6))]) hx hb dL_lay_266 hl (k := 6) rfl (by rw [← e_v_59]; rfl) (by decide) rfl (fun ls hl => ?_)
                        refine lv_goto (tgt := 44) hx hb dL_lay_269 (by decide) ?_
                        exact ih _ _ _ _ _ _ _ hT Z (lv_sub hl [2, 3, 4, 5, 6, 1, 0] rfl) k0 k1 k2 k3 k4
                      · replace hT := mx_f hT h_58
                        cases hT
                        exact k4 rfl _ _ _ Z (lv_sub hl [1, 2, 3, 4, 5] rfl)
                    · replace hT := mx_t hT h_55
                      refine lv_aload_n hx hb dL_lay_215 rfl (lv_at hl 1 rfl) ?_
                      refine lv_bipush (v := (53 : Int32)) hx hb dL_lay_216 (by decide) ?_
                      obtain ⟨q_60, h_q_60, hT⟩ := mx_bind hT
                      refine mx_callV (As := [.int ((53 : Int32))]) (rest := []) (st1 := [.int (q_60.1)]) (C := RX5) (T := TX5) (N := 6) (ci := 5) X Z hl.1 (c5_type l E hJ hy0 _ _ _ h_q_60) wd_21_19 wd_21_20 wd_21_21 wd_1_2 wd_21_22 hd5_type ⟨Nat.le_trans (by decide) hR.1, Nat.le_trans (by decide) hR.2⟩ ⟨Nat.zero_le _, Nat.zero_le _⟩ hy0.i (hy0.c _) rfl (Nat.le_of_ble_eq_true rfl) rfl rfl dL_lay_218 (fun H locs Z => ?_)
                      refine lv_iload hx hb dL_lay_221 (lv_at hl 0 rfl) ?_
                      refine lv_iconst (v := (1 : Int32)) hx hb dL_lay_223 (by decide) ?_
                      refine lv_iadd hx hb dL_lay_224 ?_
                      refine lv_icmp_ne (tgt := 248) hx hb dL_lay_225 (by decide) (fun h_61 => ?_) (fun h_61 => ?_)
                      · replace hT := mx_f hT h_61
                        cases hT
                        exact k3 rfl _ _ _ Z (lv_sub hl [1, 2, 3, 4, 5] rfl)
                      · replace hT := mx_t hT h_61
                        refine lv_aload_n hx hb dL_lay_228 rfl (lv_at hl 1 rfl) ?_
                        obtain ⟨q_62, h_q_62, hT⟩ := mx_bind hT
                        refine mx_callV (As := []) (rest := []) (st1 := [.int (q_62)]) (C := RX5) (T := TX5) (N := 6) (ci := 5) X Z hl.1 (c5_fault l E hJ hy0 _ _ h_q_62) wd_21_11 wd_21_12 wd_21_13 wd_1_2 wd_21_14 hd5_fault ⟨Nat.le_trans (by decide) hR.1, Nat.le_trans (by decide) hR.2⟩ ⟨Nat.zero_le _, Nat.zero_le _⟩ hy0.i (hy0.c _) rfl (Nat.le_of_ble_eq_true rfl) rfl rfl dL_lay_229 (fun H locs Z => ?_)
                        refine lv_iload hx hb dL_lay_232 (lv_at hl 0 rfl) ?_
                        refine lv_icmp_ne (tgt := 248) hx hb dL_lay_234 (by decide) (fun h_63 => ?_) (fun h_63 => ?_)
                        · replace hT := mx_f hT h_63
                          cases hT
                          exact k3 rfl _ _ _ Z (lv_sub hl [1, 2, 3, 4, 5] rfl)
                        · replace hT := mx_t hT h_63
                          refine lv_aload_n hx hb dL_lay_237 rfl (lv_at hl 1 rfl) ?_
                          refine lv_iload hx hb dL_lay_238 (lv_at hl 6 rfl) ?_
                          refine lv_aload hx hb dL_lay_240 (lv_at hl 4 rfl) ?_
                          obtain ⟨q_64, h_q_64, hT⟩ := mx_bind hT
                          refine mx_callS (As := [.ref (mad E (240)), .int (w8), .ref (mad E (y4))]) (rest := []) (st1 := [.int (q_64.1)]) X Z hl.1 (mL_again l E hJ hy0 hy4 _ _ _ h_q_64) wd_22_3 wd_22_4 wd_10_7 wd_22_5 hdL_again ⟨Nat.le_trans (by decide) hR.1, Nat.le_trans (by decide) hR.2⟩ ⟨Nat.zero_le _, Nat.zero_le _⟩ (Nat.le_of_ble_eq_true rfl) rfl rfl dL_lay_242 (fun H locs Z => ?_)
                          refine lv_if_ne (tgt := 250) hx hb dL_lay_245 (by decide) (fun h_65 => ?_) (fun h_65 => ?_)
                          · replace hT := mx_f hT h_65
                            refine lv_aload_n hx hb dL_lay_250 rfl (lv_at hl 1 rfl) ?_
                            refine lv_bipush (v := (44 : Int32)) hx hb dL_lay_251 (by decide) ?_
                            obtain ⟨q_66, h_q_66, hT⟩ := mx_bind hT
                            refine mx_callV (As := [.int ((44 : Int32))]) (rest := []) (st1 := [.int (q_66.1)]) (C := RX5) (T := TX5) (N := 6) (ci := 5) X Z hl.1 (c5_type l E hJ hy0 _ _ _ h_q_66) wd_21_19 wd_21_20 wd_21_21 wd_1_2 wd_21_22 hd5_type ⟨Nat.le_trans (by decide) hR.1, Nat.le_trans (by decide) hR.2⟩ ⟨Nat.zero_le _, Nat.zero_le _⟩ hy0.i (hy0.c _) rfl (Nat.le_of_ble_eq_true rfl) rfl rfl dL_lay_253 (fun H locs Z => ?_)
                            obtain ⟨v_67, e_v_67, hT⟩ := mx_nm hT
                            refine lv_iinc (v := v_67) (lv' := [(7, .int (v_67)), (0, .ref (mad E (240))), (1, .int (y1)), (2, .int (y2)), (4, .ref (mad E (y4))), (6, .int (y6)), (8, .int (w8))]) hx hb dL_lay_256 hl (k := 0) rfl (by rw [← e_v_67]; rfl) (by decide) rfl (fun ls hl => ?_)
                            refine lv_iload hx hb dL_lay_259 (lv_at hl 0 rfl) ?_
                            refine lv_icmp_eq (tgt := 266) hx hb dL_lay_261 (by decide) (fun h_68 => ?_) (fun h_68 => ?_)
                            · replace hT := mx_t hT h_68
                              obtain ⟨v_69, e_v_69, hT⟩ := mx_nm hT
                              refine lv_iinc (v := v_69) (lv' := [(8, .int (v_69)), (7, .int (v_67)), (0, .ref (mad E (240))), (1, .int (y1)), (2, .int (y2)), (4, .ref (mad E (y4))), (6, .int (y6))]) hx hb dL_lay_266 hl (k := 6) rfl (by rw [← e_v_69]; rfl) (by decide) rfl (fun ls hl => ?_)
                              refine lv_goto (tgt := 44) hx hb dL_lay_269 (by decide) ?_
                              exact ih _ _ _ _ _ _ _ hT Z (lv_sub hl [2, 3, 4, 5, 6, 1, 0] rfl) k0 k1 k2 k3 k4
                            · replace hT := mx_f hT h_68
                              cases hT
                              exact k4 rfl _ _ _ Z (lv_sub hl [1, 2, 3, 4, 5] rfl)
                          · replace hT := mx_t hT h_65
                            cases hT
                            exact k3 rfl _ _ _ Z (lv_sub hl [1, 2, 3, 4, 5] rfl)
                  · replace hT := mx_t hT h_53
                    refine lv_goto (tgt := 266) hx hb dL_lay_200 (by decide) ?_
                    obtain ⟨v_70, e_v_70, hT⟩ := mx_nm hT
                    refine lv_iinc (v := v_70) (lv' := [(8, .int (v_70)), (7, .int (v_51)), (0, .ref (mad E (240))), (1, .int (y1)), (2, .int (y2)), (4, .ref (mad E (y4))), (6, .int (y6))]) hx hb dL_lay_266 hl (k := 6) rfl (by rw [← e_v_70]; rfl) (by decide) rfl (fun ls hl => ?_)
                    refine lv_goto (tgt := 44) hx hb dL_lay_269 (by decide) ?_
                    exact ih _ _ _ _ _ _ _ hT Z (lv_sub hl [2, 3, 4, 5, 6, 1, 0] rfl) k0 k1 k2 k3 k4
                · replace hT := mx_f hT h_52
                  cases hT
                  exact k2 rfl _ _ _ Z (lv_sub hl [1, 2, 3, 4, 5] rfl)
          · replace hT := mx_t hT h_21
            refine lv_iconst (v := (1 : Int32)) hx hb dL_lay_124 (by decide) ?_
            refine lv_goto (tgt := 129) hx hb dL_lay_125 (by decide) ?_
            obtain ⟨h_71, hT⟩ := mx_chk hT
            obtain ⟨G_72, e_G_72, hT⟩ := mx_nm hT
            refine mx_iast X Z hy4 h_71 dL_lay_129 (fun H locs Z => ?_)
            rw [e_G_72] at Z
            refine lv_aload hx hb dL_lay_130 (lv_at hl 3 rfl) ?_
            refine lv_iconst (v := (3 : Int32)) hx hb dL_lay_132 (by decide) ?_
            refine lv_iload hx hb dL_lay_133 (lv_at hl 6 rfl) ?_
            refine lv_imul hx hb dL_lay_135 ?_
            refine lv_iconst (v := (2 : Int32)) hx hb dL_lay_136 (by decide) ?_
            refine lv_iadd hx hb dL_lay_137 ?_
            refine lv_iconst (v := (0 : Int32)) hx hb dL_lay_138 (by decide) ?_
            obtain ⟨h_73, hT⟩ := mx_chk hT
            obtain ⟨G_74, e_G_74, hT⟩ := mx_nm hT
            refine mx_iast X Z hy4 h_73 dL_lay_139 (fun H locs Z => ?_)
            rw [e_G_74] at Z
            refine lv_aload_n hx hb dL_lay_140 rfl (lv_at hl 0 rfl) ?_
            refine lv_bipush (v := (48 : Int32)) hx hb dL_lay_141 (by decide) ?_
            refine lv_aload hx hb dL_lay_143 (lv_at hl 3 rfl) ?_
            refine lv_iconst (v := (3 : Int32)) hx hb dL_lay_145 (by decide) ?_
            refine lv_iload hx hb dL_lay_146 (lv_at hl 6 rfl) ?_
            refine lv_imul hx hb dL_lay_148 ?_
            obtain ⟨h_75, hT⟩ := mx_chk hT
            refine mx_iald X Z hy4 h_75 dL_lay_149 ?_
            refine lv_iadd hx hb dL_lay_150 ?_
            obtain ⟨q_76, h_q_76, hT⟩ := mx_bind hT
            refine mx_callV (As := [.int (((48 : Int32)) + (G_74 y4 ((((3 : Int32)) * w8).toNatClampNeg)))]) (rest := []) (st1 := [.int (q_76.1)]) (C := RX5) (T := TX5) (N := 6) (ci := 5) X Z hl.1 (c5_type l E hJ hy0 _ _ _ h_q_76) wd_21_19 wd_21_20 wd_21_21 wd_1_2 wd_21_22 hd5_type ⟨Nat.le_trans (by decide) hR.1, Nat.le_trans (by decide) hR.2⟩ ⟨Nat.zero_le _, Nat.zero_le _⟩ hy0.i (hy0.c _) rfl (Nat.le_of_ble_eq_true rfl) rfl rfl dL_lay_151 (fun H locs Z => ?_)
            obtain ⟨v_77, e_v_77, hT⟩ := mx_nm hT
            refine lv_iinc (v := v_77) (lv' := [(7, .int (v_77)), (0, .ref (mad E (240))), (1, .int (y1)), (2, .int (y2)), (4, .ref (mad E (y4))), (6, .int (y6)), (8, .int (w8))]) hx hb dL_lay_154 hl (k := 5) rfl (by rw [← e_v_77]; rfl) (by decide) rfl (fun ls hl => ?_)
            refine lv_iload hx hb dL_lay_157 (lv_at hl 0 rfl) ?_
            refine lv_icmp_ne (tgt := 189) hx hb dL_lay_159 (by decide) (fun h_78 => ?_) (fun h_78 => ?_)
            · replace hT := mx_f hT h_78
              cases hT
              exact k2 rfl _ _ _ Z (lv_sub hl [1, 2, 3, 4, 5] rfl)
            · replace hT := mx_t hT h_78
              refine lv_aload hx hb dL_lay_162 (lv_at hl 4 rfl) ?_
              refine lv_iconst (v := (3 : Int32)) hx hb dL_lay_164 (by decide) ?_
              refine lv_iload hx hb dL_lay_165 (lv_at hl 6 rfl) ?_
              refine lv_imul hx hb dL_lay_167 ?_
              refine lv_iconst (v := (1 : Int32)) hx hb dL_lay_168 (by decide) ?_
              refine lv_iadd hx hb dL_lay_169 ?_
              obtain ⟨h_79, hT⟩ := mx_chk hT
              refine mx_iald X Z hy4 h_79 dL_lay_170 ?_
              refine lv_iconst (v := (1 : Int32)) hx hb dL_lay_171 (by decide) ?_
              refine lv_icmp_ne (tgt := 191) hx hb dL_lay_172 (by decide) (fun h_80 => ?_) (fun h_80 => ?_)
              · replace hT := mx_f hT h_80
                refine lv_iload hx hb dL_lay_191 (lv_at hl 6 rfl) ?_
                refine lv_iload hx hb dL_lay_193 (lv_at hl 5 rfl) ?_
                refine lv_iconst (v := (1 : Int32)) hx hb dL_lay_195 (by decide) ?_
                refine lv_isub hx hb dL_lay_196 ?_
                refine lv_icmp_ne (tgt := 203) hx hb dL_lay_197 (by decide) (fun h_81 => ?_) (fun h_81 => ?_)
                · replace hT := mx_f hT h_81
                  refine lv_iload_n hx hb dL_lay_203 rfl (lv_at hl 3 rfl) ?_
                  refine lv_iload hx hb dL_lay_204 (lv_at hl 6 rfl) ?_
                  refine lv_ishr hx hb dL_lay_206 ?_
                  refine lv_bipush (v := (6 : Int32)) hx hb dL_lay_207 (by decide) ?_
                  obtain ⟨q_82, h_q_82, hT⟩ := mx_bind hT
                  refine mx_callS (As := [.int (y2 >>> (w8 &&& 31)), .int ((6 : Int32))]) (rest := []) (st1 := [.int (q_82)]) X Z hl.1 (mL_at l E hJ _ _ _ _ h_q_82) wd_17_3 wd_17_4 wd_10_7 wd_17_5 hdL_at ⟨Nat.le_trans (by decide) hR.1, Nat.le_trans (by decide) hR.2⟩ ⟨Nat.zero_le _, Nat.zero_le _⟩ (Nat.le_of_ble_eq_true rfl) rfl rfl dL_lay_209 (fun H locs Z => ?_)
                  refine lv_if_ne (tgt := 250) hx hb dL_lay_212 (by decide) (fun h_83 => ?_) (fun h_83 => ?_)
                  · replace hT := mx_f hT h_83
                    refine lv_aload_n hx hb dL_lay_250 rfl (lv_at hl 1 rfl) ?_
                    refine lv_bipush (v := (44 : Int32)) hx hb dL_lay_251 (by decide) ?_
                    obtain ⟨q_84, h_q_84, hT⟩ := mx_bind hT
                    refine mx_callV (As := [.int ((44 : Int32))]) (rest := []) (st1 := [.int (q_84.1)]) (C := RX5) (T := TX5) (N := 6) (ci := 5) X Z hl.1 (c5_type l E hJ hy0 _ _ _ h_q_84) wd_21_19 wd_21_20 wd_21_21 wd_1_2 wd_21_22 hd5_type ⟨Nat.le_trans (by decide) hR.1, Nat.le_trans (by decide) hR.2⟩ ⟨Nat.zero_le _, Nat.zero_le _⟩ hy0.i (hy0.c _) rfl (Nat.le_of_ble_eq_true rfl) rfl rfl dL_lay_253 (fun H locs Z => ?_)
                    obtain ⟨v_85, e_v_85, hT⟩ := mx_nm hT
                    refine lv_iinc (v := v_85) (lv' := [(7, .int (v_85)), (0, .ref (mad E (240))), (1, .int (y1)), (2, .int (y2)), (4, .ref (mad E (y4))), (6, .int (y6)), (8, .int (w8))]) hx hb dL_lay_256 hl (k := 0) rfl (by rw [← e_v_85]; rfl) (by decide) rfl (fun ls hl => ?_)
                    refine lv_iload hx hb dL_lay_259 (lv_at hl 0 rfl) ?_
                    refine lv_icmp_eq (tgt := 266) hx hb dL_lay_261 (by decide) (fun h_86 => ?_) (fun h_86 => ?_)
                    · replace hT := mx_t hT h_86
                      obtain ⟨v_87, e_v_87, hT⟩ := mx_nm hT
                      refine lv_iinc (v := v_87) (lv' := [(8, .int (v_87)), (7, .int (v_85)), (0, .ref (mad E (240))), (1, .int (y1)), (2, .int (y2)), (4, .ref (mad E (y4))), (6, .int (y6))]) hx hb dL_lay_266 hl (k := 6) rfl (by rw [← e_v_87]; rfl) (by decide) rfl (fun ls hl => ?_)
                      refine lv_goto (tgt := 44) hx hb dL_lay_269 (by decide) ?_
                      exact ih _ _ _ _ _ _ _ hT Z (lv_sub hl [2, 3, 4, 5, 6, 1, 0] rfl) k0 k1 k2 k3 k4
                    · replace hT := mx_f hT h_86
                      cases hT
                      exact k4 rfl _ _ _ Z (lv_sub hl [1, 2, 3, 4, 5] rfl)
                  · replace hT := mx_t hT h_83
                    refine lv_aload_n hx hb dL_lay_215 rfl (lv_at hl 1 rfl) ?_
                    refine lv_bipush (v := (53 : Int32)) hx hb dL_lay_216 (by decide) ?_
                    obtain ⟨q_88, h_q_88, hT⟩ := mx_bind hT
                    refine mx_callV (As := [.int ((53 : Int32))]) (rest := []) (st1 := [.int (q_88.1)]) (C := RX5) (T := TX5) (N := 6) (ci := 5) X Z hl.1 (c5_type l E hJ hy0 _ _ _ h_q_88) wd_21_19 wd_21_20 wd_21_21 wd_1_2 wd_21_22 hd5_type ⟨Nat.le_trans (by decide) hR.1, Nat.le_trans (by decide) hR.2⟩ ⟨Nat.zero_le _, Nat.zero_le _⟩ hy0.i (hy0.c _) rfl (Nat.le_of_ble_eq_true rfl) rfl rfl dL_lay_218 (fun H locs Z => ?_)
                    refine lv_iload hx hb dL_lay_221 (lv_at hl 0 rfl) ?_
                    refine lv_iconst (v := (1 : Int32)) hx hb dL_lay_223 (by decide) ?_
                    refine lv_iadd hx hb dL_lay_224 ?_
                    refine lv_icmp_ne (tgt := 248) hx hb dL_lay_225 (by decide) (fun h_89 => ?_) (fun h_89 => ?_)
                    · replace hT := mx_f hT h_89
                      cases hT
                      exact k3 rfl _ _ _ Z (lv_sub hl [1, 2, 3, 4, 5] rfl)
                    · replace hT := mx_t hT h_89
                      refine lv_aload_n hx hb dL_lay_228 rfl (lv_at hl 1 rfl) ?_
                      obtain ⟨q_90, h_q_90, hT⟩ := mx_bind hT
                      refine mx_callV (As := []) (rest := []) (st1 := [.int (q_90)]) (C := RX5) (T := TX5) (N := 6) (ci := 5) X Z hl.1 (c5_fault l E hJ hy0 _ _ h_q_90) wd_21_11 wd_21_12 wd_21_13 wd_1_2 wd_21_14 hd5_fault ⟨Nat.le_trans (by decide) hR.1, Nat.le_trans (by decide) hR.2⟩ ⟨Nat.zero_le _, Nat.zero_le _⟩ hy0.i (hy0.c _) rfl (Nat.le_of_ble_eq_true rfl) rfl rfl dL_lay_229 (fun H locs Z => ?_)
                      refine lv_iload hx hb dL_lay_232 (lv_at hl 0 rfl) ?_
                      refine lv_icmp_ne (tgt := 248) hx hb dL_lay_234 (by decide) (fun h_91 => ?_) (fun h_91 => ?_)
                      · replace hT := mx_f hT h_91
                        cases hT
                        exact k3 rfl _ _ _ Z (lv_sub hl [1, 2, 3, 4, 5] rfl)
                      · replace hT := mx_t hT h_91
                        refine lv_aload_n hx hb dL_lay_237 rfl (lv_at hl 1 rfl) ?_
                        refine lv_iload hx hb dL_lay_238 (lv_at hl 6 rfl) ?_
                        refine lv_aload hx hb dL_lay_240 (lv_at hl 4 rfl) ?_
                        obtain ⟨q_92, h_q_92, hT⟩ := mx_bind hT
                        refine mx_callS (As := [.ref (mad E (240)), .int (w8), .ref (mad E (y4))]) (rest := []) (st1 := [.int (q_92.1)]) X Z hl.1 (mL_again l E hJ hy0 hy4 _ _ _ h_q_92) wd_22_3 wd_22_4 wd_10_7 wd_22_5 hdL_again ⟨Nat.le_trans (by decide) hR.1, Nat.le_trans (by decide) hR.2⟩ ⟨Nat.zero_le _, Nat.zero_le _⟩ (Nat.le_of_ble_eq_true rfl) rfl rfl dL_lay_242 (fun H locs Z => ?_)
                        refine lv_if_ne (tgt := 250) hx hb dL_lay_245 (by decide) (fun h_93 => ?_) (fun h_93 => ?_)
                        · replace hT := mx_f hT h_93
                          refine lv_aload_n hx hb dL_lay_250 rfl (lv_at hl 1 rfl) ?_
                          refine lv_bipush (v := (44 : Int32)) hx hb dL_lay_251 (by decide) ?_
                          obtain ⟨q_94, h_q_94, hT⟩ := mx_bind hT
                          refine mx_callV (As := [.int ((44 : Int32))]) (rest := []) (st1 := [.int (q_94.1)]) (C := RX5) (T := TX5) (N := 6) (ci := 5) X Z hl.1 (c5_type l E hJ hy0 _ _ _ h_q_94) wd_21_19 wd_21_20 wd_21_21 wd_1_2 wd_21_22 hd5_type ⟨Nat.le_trans (by decide) hR.1, Nat.le_trans (by decide) hR.2⟩ ⟨Nat.zero_le _, Nat.zero_le _⟩ hy0.i (hy0.c _) rfl (Nat.le_of_ble_eq_true rfl) rfl rfl dL_lay_253 (fun H locs Z => ?_)
                          obtain ⟨v_95, e_v_95, hT⟩ := mx_nm hT
                          refine lv_iinc (v := v_95) (lv' := [(7, .int (v_95)), (0, .ref (mad E (240))), (1, .int (y1)), (2, .int (y2)), (4, .ref (mad E (y4))), (6, .int (y6)), (8, .int (w8))]) hx hb dL_lay_256 hl (k := 0) rfl (by rw [← e_v_95]; rfl) (by decide) rfl (fun ls hl => ?_)
                          refine lv_iload hx hb dL_lay_259 (lv_at hl 0 rfl) ?_
                          refine lv_icmp_eq (tgt := 266) hx hb dL_lay_261 (by decide) (fun h_96 => ?_) (fun h_96 => ?_)
                          · replace hT := mx_t hT h_96
                            obtain ⟨v_97, e_v_97, hT⟩ := mx_nm hT
                            refine lv_iinc (v := v_97) (lv' := [(8, .int (v_97)), (7, .int (v_95)), (0, .ref (mad E (240))), (1, .int (y1)), (2, .int (y2)), (4, .ref (mad E (y4))), (6, .int (y6))]) hx hb dL_lay_266 hl (k := 6) rfl (by rw [← e_v_97]; rfl) (by decide) rfl (fun ls hl => ?_)
                            refine lv_goto (tgt := 44) hx hb dL_lay_269 (by decide) ?_
                            exact ih _ _ _ _ _ _ _ hT Z (lv_sub hl [2, 3, 4, 5, 6, 1, 0] rfl) k0 k1 k2 k3 k4
                          · replace hT := mx_f hT h_96
                            cases hT
                            exact k4 rfl _ _ _ Z (lv_sub hl [1, 2, 3, 4, 5] rfl)
                        · replace hT := mx_t hT h_93
                          cases hT
                          exact k3 rfl _ _ _ Z (lv_sub hl [1, 2, 3, 4, 5] rfl)
                · replace hT := mx_t hT h_81
                  refine lv_goto (tgt := 266) hx hb dL_lay_200 (by decide) ?_
                  obtain ⟨v_98, e_v_98, hT⟩ := mx_nm hT
                  refine lv_iinc (v := v_98) (lv' := [(8, .int (v_98)), (7, .int (v_77)), (0, .ref (mad E (240))), (1, .int (y1)), (2, .int (y2)), (4, .ref (mad E (y4))), (6, .int (y6))]) hx hb dL_lay_266 hl (k := 6) rfl (by rw [← e_v_98]; rfl) (by decide) rfl (fun ls hl => ?_)
                  refine lv_goto (tgt := 44) hx hb dL_lay_269 (by decide) ?_
                  exact ih _ _ _ _ _ _ _ hT Z (lv_sub hl [2, 3, 4, 5, 6, 1, 0] rfl) k0 k1 k2 k3 k4
              · replace hT := mx_t hT h_80
                refine lv_aload_n hx hb dL_lay_175 rfl (lv_at hl 1 rfl) ?_
                refine lv_bipush (v := (112 : Int32)) hx hb dL_lay_176 (by decide) ?_
                obtain ⟨q_99, h_q_99, hT⟩ := mx_bind hT
                refine mx_callV (As := [.int ((112 : Int32))]) (rest := []) (st1 := [.int (q_99.1)]) (C := RX5) (T := TX5) (N := 6) (ci := 5) X Z hl.1 (c5_type l E hJ hy0 _ _ _ h_q_99) wd_21_19 wd_21_20 wd_21_21 wd_1_2 wd_21_22 hd5_type ⟨Nat.le_trans (by decide) hR.1, Nat.le_trans (by decide) hR.2⟩ ⟨Nat.zero_le _, Nat.zero_le _⟩ hy0.i (hy0.c _) rfl (Nat.le_of_ble_eq_true rfl) rfl rfl dL_lay_178 (fun H locs Z => ?_)
                obtain ⟨v_100, e_v_100, hT⟩ := mx_nm hT
                refine lv_iinc (v := v_100) (lv' := [(7, .int (v_100)), (0, .ref (mad E (240))), (1, .int (y1)), (2, .int (y2)), (4, .ref (mad E (y4))), (6, .int (y6)), (8, .int (w8))]) hx hb dL_lay_181 hl (k := 0) rfl (by rw [← e_v_100]; rfl) (by decide) rfl (fun ls hl => ?_)
                refine lv_iload hx hb dL_lay_184 (lv_at hl 0 rfl) ?_
                refine lv_icmp_eq (tgt := 191) hx hb dL_lay_186 (by decide) (fun h_101 => ?_) (fun h_101 => ?_)
                · replace hT := mx_t hT h_101
                  refine lv_iload hx hb dL_lay_191 (lv_at hl 6 rfl) ?_
                  refine lv_iload hx hb dL_lay_193 (lv_at hl 5 rfl) ?_
                  refine lv_iconst (v := (1 : Int32)) hx hb dL_lay_195 (by decide) ?_
                  refine lv_isub hx hb dL_lay_196 ?_
                  refine lv_icmp_ne (tgt := 203) hx hb dL_lay_197 (by decide) (fun h_102 => ?_) (fun h_102 => ?_)
                  · replace hT := mx_f hT h_102
                    refine lv_iload_n hx hb dL_lay_203 rfl (lv_at hl 3 rfl) ?_
                    refine lv_iload hx hb dL_lay_204 (lv_at hl 6 rfl) ?_
                    refine lv_ishr hx hb dL_lay_206 ?_
                    refine lv_bipush (v := (6 : Int32)) hx hb dL_lay_207 (by decide) ?_
                    obtain ⟨q_103, h_q_103, hT⟩ := mx_bind hT
                    refine mx_callS (As := [.int (y2 >>> (w8 &&& 31)), .int ((6 : Int32))]) (rest := []) (st1 := [.int (q_103)]) X Z hl.1 (mL_at l E hJ _ _ _ _ h_q_103) wd_17_3 wd_17_4 wd_10_7 wd_17_5 hdL_at ⟨Nat.le_trans (by decide) hR.1, Nat.le_trans (by decide) hR.2⟩ ⟨Nat.zero_le _, Nat.zero_le _⟩ (Nat.le_of_ble_eq_true rfl) rfl rfl dL_lay_209 (fun H locs Z => ?_)
                    refine lv_if_ne (tgt := 250) hx hb dL_lay_212 (by decide) (fun h_104 => ?_) (fun h_104 => ?_)
                    · replace hT := mx_f hT h_104
                      refine lv_aload_n hx hb dL_lay_250 rfl (lv_at hl 1 rfl) ?_
                      refine lv_bipush (v := (44 : Int32)) hx hb dL_lay_251 (by decide) ?_
                      obtain ⟨q_105, h_q_105, hT⟩ := mx_bind hT
                      refine mx_callV (As := [.int ((44 : Int32))]) (rest := []) (st1 := [.int (q_105.1)]) (C := RX5) (T := TX5) (N := 6) (ci := 5) X Z hl.1 (c5_type l E hJ hy0 _ _ _ h_q_105) wd_21_19 wd_21_20 wd_21_21 wd_1_2 wd_21_22 hd5_type ⟨Nat.le_trans (by decide) hR.1, Nat.le_trans (by decide) hR.2⟩ ⟨Nat.zero_le _, Nat.zero_le _⟩ hy0.i (hy0.c _) rfl (Nat.le_of_ble_eq_true rfl) rfl rfl dL_lay_253 (fun H locs Z => ?_)
                      obtain ⟨v_106, e_v_106, hT⟩ := mx_nm hT
                      refine lv_iinc (v := v_106) (lv' := [(7, .int (v_106)), (0, .ref (mad E (240))), (1, .int (y1)), (2, .int (y2)), (4, .ref (mad E (y4))), (6, .int (y6)), (8, .int (w8))]) hx hb dL_lay_256 hl (k := 0) rfl (by rw [← e_v_106]; rfl) (by decide) rfl (fun ls hl => ?_)
                      refine lv_iload hx hb dL_lay_259 (lv_at hl 0 rfl) ?_
                      refine lv_icmp_eq (tgt := 266) hx hb dL_lay_261 (by decide) (fun h_107 => ?_) (fun h_107 => ?_)
                      · replace hT := mx_t hT h_107
                        obtain ⟨v_108, e_v_108, hT⟩ := mx_nm hT
                        refine lv_iinc (v := v_108) (lv' := [(8, .int (v_108)), (7, .int (v_106)), (0, .ref (mad E (240))), (1, .int (y1)), (2, .int (y2)), (4, .ref (mad E (y4))), (6, .int (y6))]) hx hb dL_lay_266 hl (k := 6) rfl (by rw [← e_v_108]; rfl) (by decide) rfl (fun ls hl => ?_)
                        refine lv_goto (tgt := 44) hx hb dL_lay_269 (by decide) ?_
                        exact ih _ _ _ _ _ _ _ hT Z (lv_sub hl [2, 3, 4, 5, 6, 1, 0] rfl) k0 k1 k2 k3 k4
                      · replace hT := mx_f hT h_107
                        cases hT
                        exact k4 rfl _ _ _ Z (lv_sub hl [1, 2, 3, 4, 5] rfl)
                    · replace hT := mx_t hT h_104
                      refine lv_aload_n hx hb dL_lay_215 rfl (lv_at hl 1 rfl) ?_
                      refine lv_bipush (v := (53 : Int32)) hx hb dL_lay_216 (by decide) ?_
                      obtain ⟨q_109, h_q_109, hT⟩ := mx_bind hT
                      refine mx_callV (As := [.int ((53 : Int32))]) (rest := []) (st1 := [.int (q_109.1)]) (C := RX5) (T := TX5) (N := 6) (ci := 5) X Z hl.1 (c5_type l E hJ hy0 _ _ _ h_q_109) wd_21_19 wd_21_20 wd_21_21 wd_1_2 wd_21_22 hd5_type ⟨Nat.le_trans (by decide) hR.1, Nat.le_trans (by decide) hR.2⟩ ⟨Nat.zero_le _, Nat.zero_le _⟩ hy0.i (hy0.c _) rfl (Nat.le_of_ble_eq_true rfl) rfl rfl dL_lay_218 (fun H locs Z => ?_)
                      refine lv_iload hx hb dL_lay_221 (lv_at hl 0 rfl) ?_
                      refine lv_iconst (v := (1 : Int32)) hx hb dL_lay_223 (by decide) ?_
                      refine lv_iadd hx hb dL_lay_224 ?_
                      refine lv_icmp_ne (tgt := 248) hx hb dL_lay_225 (by decide) (fun h_110 => ?_) (fun h_110 => ?_)
                      · replace hT := mx_f hT h_110
                        cases hT
                        exact k3 rfl _ _ _ Z (lv_sub hl [1, 2, 3, 4, 5] rfl)
                      · replace hT := mx_t hT h_110
                        refine lv_aload_n hx hb dL_lay_228 rfl (lv_at hl 1 rfl) ?_
                        obtain ⟨q_111, h_q_111, hT⟩ := mx_bind hT
                        refine mx_callV (As := []) (rest := []) (st1 := [.int (q_111)]) (C := RX5) (T := TX5) (N := 6) (ci := 5) X Z hl.1 (c5_fault l E hJ hy0 _ _ h_q_111) wd_21_11 wd_21_12 wd_21_13 wd_1_2 wd_21_14 hd5_fault ⟨Nat.le_trans (by decide) hR.1, Nat.le_trans (by decide) hR.2⟩ ⟨Nat.zero_le _, Nat.zero_le _⟩ hy0.i (hy0.c _) rfl (Nat.le_of_ble_eq_true rfl) rfl rfl dL_lay_229 (fun H locs Z => ?_)
                        refine lv_iload hx hb dL_lay_232 (lv_at hl 0 rfl) ?_
                        refine lv_icmp_ne (tgt := 248) hx hb dL_lay_234 (by decide) (fun h_112 => ?_) (fun h_112 => ?_)
                        · replace hT := mx_f hT h_112
                          cases hT
                          exact k3 rfl _ _ _ Z (lv_sub hl [1, 2, 3, 4, 5] rfl)
                        · replace hT := mx_t hT h_112
                          refine lv_aload_n hx hb dL_lay_237 rfl (lv_at hl 1 rfl) ?_
                          refine lv_iload hx hb dL_lay_238 (lv_at hl 6 rfl) ?_
                          refine lv_aload hx hb dL_lay_240 (lv_at hl 4 rfl) ?_
                          obtain ⟨q_113, h_q_113, hT⟩ := mx_bind hT
                          refine mx_callS (As := [.ref (mad E (240)), .int (w8), .ref (mad E (y4))]) (rest := []) (st1 := [.int (q_113.1)]) X Z hl.1 (mL_again l E hJ hy0 hy4 _ _ _ h_q_113) wd_22_3 wd_22_4 wd_10_7 wd_22_5 hdL_again ⟨Nat.le_trans (by decide) hR.1, Nat.le_trans (by decide) hR.2⟩ ⟨Nat.zero_le _, Nat.zero_le _⟩ (Nat.le_of_ble_eq_true rfl) rfl rfl dL_lay_242 (fun H locs Z => ?_)
                          refine lv_if_ne (tgt := 250) hx hb dL_lay_245 (by decide) (fun h_114 => ?_) (fun h_114 => ?_)
                          · replace hT := mx_f hT h_114
                            refine lv_aload_n hx hb dL_lay_250 rfl (lv_at hl 1 rfl) ?_
                            refine lv_bipush (v := (44 : Int32)) hx hb dL_lay_251 (by decide) ?_
                            obtain ⟨q_115, h_q_115, hT⟩ := mx_bind hT
                            refine mx_callV (As := [.int ((44 : Int32))]) (rest := []) (st1 := [.int (q_115.1)]) (C := RX5) (T := TX5) (N := 6) (ci := 5) X Z hl.1 (c5_type l E hJ hy0 _ _ _ h_q_115) wd_21_19 wd_21_20 wd_21_21 wd_1_2 wd_21_22 hd5_type ⟨Nat.le_trans (by decide) hR.1, Nat.le_trans (by decide) hR.2⟩ ⟨Nat.zero_le _, Nat.zero_le _⟩ hy0.i (hy0.c _) rfl (Nat.le_of_ble_eq_true rfl) rfl rfl dL_lay_253 (fun H locs Z => ?_)
                            obtain ⟨v_116, e_v_116, hT⟩ := mx_nm hT
                            refine lv_iinc (v := v_116) (lv' := [(7, .int (v_116)), (0, .ref (mad E (240))), (1, .int (y1)), (2, .int (y2)), (4, .ref (mad E (y4))), (6, .int (y6)), (8, .int (w8))]) hx hb dL_lay_256 hl (k := 0) rfl (by rw [← e_v_116]; rfl) (by decide) rfl (fun ls hl => ?_)
                            refine lv_iload hx hb dL_lay_259 (lv_at hl 0 rfl) ?_
                            refine lv_icmp_eq (tgt := 266) hx hb dL_lay_261 (by decide) (fun h_117 => ?_) (fun h_117 => ?_)
                            · replace hT := mx_t hT h_117
                              obtain ⟨v_118, e_v_118, hT⟩ := mx_nm hT
                              refine lv_iinc (v := v_118) (lv' := [(8, .int (v_118)), (7, .int (v_116)), (0, .ref (mad E (240))), (1, .int (y1)), (2, .int (y2)), (4, .ref (mad E (y4))), (6, .int (y6))]) hx hb dL_lay_266 hl (k := 6) rfl (by rw [← e_v_118]; rfl) (by decide) rfl (fun ls hl => ?_)
                              refine lv_goto (tgt := 44) hx hb dL_lay_269 (by decide) ?_
                              exact ih _ _ _ _ _ _ _ hT Z (lv_sub hl [2, 3, 4, 5, 6, 1, 0] rfl) k0 k1 k2 k3 k4
                            · replace hT := mx_f hT h_117
                              cases hT
                              exact k4 rfl _ _ _ Z (lv_sub hl [1, 2, 3, 4, 5] rfl)
                          · replace hT := mx_t hT h_114
                            cases hT
                            exact k3 rfl _ _ _ Z (lv_sub hl [1, 2, 3, 4, 5] rfl)
                  · replace hT := mx_t hT h_102
                    refine lv_goto (tgt := 266) hx hb dL_lay_200 (by decide) ?_
                    obtain ⟨v_119, e_v_119, hT⟩ := mx_nm hT
                    refine lv_iinc (v := v_119) (lv' := [(8, .int (v_119)), (7, .int (v_100)), (0, .ref (mad E (240))), (1, .int (y1)), (2, .int (y2)), (4, .ref (mad E (y4))), (6, .int (y6))]) hx hb dL_lay_266 hl (k := 6) rfl (by rw [← e_v_119]; rfl) (by decide) rfl (fun ls hl => ?_)
                    refine lv_goto (tgt := 44) hx hb dL_lay_269 (by decide) ?_
                    exact ih _ _ _ _ _ _ _ hT Z (lv_sub hl [2, 3, 4, 5, 6, 1, 0] rfl) k0 k1 k2 k3 k4
                · replace hT := mx_f hT h_101
                  cases hT
                  exact k2 rfl _ _ _ Z (lv_sub hl [1, 2, 3, 4, 5] rfl)
        · replace hT := mx_t hT h_16
          refine lv_bipush (v := (10 : Int32)) hx hb dL_lay_88 (by decide) ?_
          refine lv_goto (tgt := 94) hx hb dL_lay_90 (by decide) ?_
          obtain ⟨q_120, h_q_120, hT⟩ := mx_bind hT
          refine mx_callS (As := [.int ((y2 >>> (((2 : Int32)) * w8 &&& 31)) + w8), .int ((10 : Int32))]) (rest := [.int (((3 : Int32)) * w8), .ref (mad E (y4))]) (st1 := [.int (q_120), .int (((3 : Int32)) * w8), .ref (mad E (y4))]) X Z hl.1 (mL_at l E hJ _ _ _ _ h_q_120) wd_17_3 wd_17_4 wd_10_7 wd_17_5 hdL_at ⟨Nat.le_trans (by decide) hR.1, Nat.le_trans (by decide) hR.2⟩ ⟨Nat.zero_le _, Nat.zero_le _⟩ (Nat.le_of_ble_eq_true rfl) rfl rfl dL_lay_94 (fun H locs Z => ?_)
          obtain ⟨h_121, hT⟩ := mx_chk hT
          obtain ⟨G_122, e_G_122, hT⟩ := mx_nm hT
          refine mx_iast X Z hy4 h_121 dL_lay_97 (fun H locs Z => ?_)
          rw [e_G_122] at Z
          refine lv_aload hx hb dL_lay_98 (lv_at hl 3 rfl) ?_
          refine lv_iconst (v := (3 : Int32)) hx hb dL_lay_100 (by decide) ?_
          refine lv_iload hx hb dL_lay_101 (lv_at hl 6 rfl) ?_
          refine lv_imul hx hb dL_lay_103 ?_
          refine lv_iconst (v := (1 : Int32)) hx hb dL_lay_104 (by decide) ?_
          refine lv_iadd hx hb dL_lay_105 ?_
          refine lv_iload_n hx hb dL_lay_106 rfl (lv_at hl 1 rfl) ?_
          refine lv_iconst (v := (2 : Int32)) hx hb dL_lay_107 (by decide) ?_
          refine lv_iload hx hb dL_lay_108 (lv_at hl 6 rfl) ?_
          refine lv_imul hx hb dL_lay_110 ?_
          refine lv_iconst (v := (3 : Int32)) hx hb dL_lay_111 (by decide) ?_
          refine lv_iadd hx hb dL_lay_112 ?_
          refine lv_ishr hx hb dL_lay_113 ?_
          refine lv_iload hx hb dL_lay_114 (lv_at hl 6 rfl) ?_
          refine lv_iadd hx hb dL_lay_116 ?_
          refine lv_iconst (v := (3 : Int32)) hx hb dL_lay_117 (by decide) ?_
          obtain ⟨q_123, h_q_123, hT⟩ := mx_bind hT
          refine mx_callS (As := [.int ((y1 >>> ((((2 : Int32)) * w8) + ((3 : Int32)) &&& 31)) + w8), .int ((3 : Int32))]) (rest := [.int ((((3 : Int32)) * w8) + ((1 : Int32))), .ref (mad E (y4))]) (st1 := [.int (q_123), .int ((((3 : Int32)) * w8) + ((1 : Int32))), .ref (mad E (y4))]) X Z hl.1 (mL_at l E hJ _ _ _ _ h_q_123) wd_17_3 wd_17_4 wd_10_7 wd_17_5 hdL_at ⟨Nat.le_trans (by decide) hR.1, Nat.le_trans (by decide) hR.2⟩ ⟨Nat.zero_le _, Nat.zero_le _⟩ (Nat.le_of_ble_eq_true rfl) rfl rfl dL_lay_118 (fun H locs Z => ?_)
          refine lv_if_ne (tgt := 128) hx hb dL_lay_121 (by decide) (fun h_124 => ?_) (fun h_124 => ?_)
          · replace hT := mx_f hT h_124
            refine lv_iconst (v := (0 : Int32)) hx hb dL_lay_128 (by decide) ?_
            obtain ⟨h_125, hT⟩ := mx_chk hT
            obtain ⟨G_126, e_G_126, hT⟩ := mx_nm hT
            refine mx_iast X Z hy4 h_125 dL_lay_129 (fun H locs Z => ?_)
            rw [e_G_126] at Z
            refine lv_aload hx hb dL_lay_130 (lv_at hl 3 rfl) ?_
            refine lv_iconst (v := (3 : Int32)) hx hb dL_lay_132 (by decide) ?_
            refine lv_iload hx hb dL_lay_133 (lv_at hl 6 rfl) ?_
            refine lv_imul hx hb dL_lay_135 ?_
            refine lv_iconst (v := (2 : Int32)) hx hb dL_lay_136 (by decide) ?_
            refine lv_iadd hx hb dL_lay_137 ?_
            refine lv_iconst (v := (0 : Int32)) hx hb dL_lay_138 (by decide) ?_
            obtain ⟨h_127, hT⟩ := mx_chk hT
            obtain ⟨G_128, e_G_128, hT⟩ := mx_nm hT
            refine mx_iast X Z hy4 h_127 dL_lay_139 (fun H locs Z => ?_)
            rw [e_G_128] at Z
            refine lv_aload_n hx hb dL_lay_140 rfl (lv_at hl 0 rfl) ?_
            refine lv_bipush (v := (48 : Int32)) hx hb dL_lay_141 (by decide) ?_
            refine lv_aload hx hb dL_lay_143 (lv_at hl 3 rfl) ?_
            refine lv_iconst (v := (3 : Int32)) hx hb dL_lay_145 (by decide) ?_
            refine lv_iload hx hb dL_lay_146 (lv_at hl 6 rfl) ?_
            refine lv_imul hx hb dL_lay_148 ?_
            obtain ⟨h_129, hT⟩ := mx_chk hT
            refine mx_iald X Z hy4 h_129 dL_lay_149 ?_
            refine lv_iadd hx hb dL_lay_150 ?_
            obtain ⟨q_130, h_q_130, hT⟩ := mx_bind hT
            refine mx_callV (As := [.int (((48 : Int32)) + (G_128 y4 ((((3 : Int32)) * w8).toNatClampNeg)))]) (rest := []) (st1 := [.int (q_130.1)]) (C := RX5) (T := TX5) (N := 6) (ci := 5) X Z hl.1 (c5_type l E hJ hy0 _ _ _ h_q_130) wd_21_19 wd_21_20 wd_21_21 wd_1_2 wd_21_22 hd5_type ⟨Nat.le_trans (by decide) hR.1, Nat.le_trans (by decide) hR.2⟩ ⟨Nat.zero_le _, Nat.zero_le _⟩ hy0.i (hy0.c _) rfl (Nat.le_of_ble_eq_true rfl) rfl rfl dL_lay_151 (fun H locs Z => ?_)
            obtain ⟨v_131, e_v_131, hT⟩ := mx_nm hT
            refine lv_iinc (v := v_131) (lv' := [(7, .int (v_131)), (0, .ref (mad E (240))), (1, .int (y1)), (2, .int (y2)), (4, .ref (mad E (y4))), (6, .int (y6)), (8, .int (w8))]) hx hb dL_lay_154 hl (k := 5) rfl (by rw [← e_v_131]; rfl) (by decide) rfl (fun ls hl => ?_)
            refine lv_iload hx hb dL_lay_157 (lv_at hl 0 rfl) ?_
            refine lv_icmp_ne (tgt := 189) hx hb dL_lay_159 (by decide) (fun h_132 => ?_) (fun h_132 => ?_)
            · replace hT := mx_f hT h_132
              cases hT
              exact k2 rfl _ _ _ Z (lv_sub hl [1, 2, 3, 4, 5] rfl)
            · replace hT := mx_t hT h_132
              refine lv_aload hx hb dL_lay_162 (lv_at hl 4 rfl) ?_
              refine lv_iconst (v := (3 : Int32)) hx hb dL_lay_164 (by decide) ?_
              refine lv_iload hx hb dL_lay_165 (lv_at hl 6 rfl) ?_
              refine lv_imul hx hb dL_lay_167 ?_
              refine lv_iconst (v := (1 : Int32)) hx hb dL_lay_168 (by decide) ?_
              refine lv_iadd hx hb dL_lay_169 ?_
              obtain ⟨h_133, hT⟩ := mx_chk hT
              refine mx_iald X Z hy4 h_133 dL_lay_170 ?_
              refine lv_iconst (v := (1 : Int32)) hx hb dL_lay_171 (by decide) ?_
              refine lv_icmp_ne (tgt := 191) hx hb dL_lay_172 (by decide) (fun h_134 => ?_) (fun h_134 => ?_)
              · replace hT := mx_f hT h_134
                refine lv_iload hx hb dL_lay_191 (lv_at hl 6 rfl) ?_
                refine lv_iload hx hb dL_lay_193 (lv_at hl 5 rfl) ?_
                refine lv_iconst (v := (1 : Int32)) hx hb dL_lay_195 (by decide) ?_
                refine lv_isub hx hb dL_lay_196 ?_
                refine lv_icmp_ne (tgt := 203) hx hb dL_lay_197 (by decide) (fun h_135 => ?_) (fun h_135 => ?_)
                · replace hT := mx_f hT h_135
                  refine lv_iload_n hx hb dL_lay_203 rfl (lv_at hl 3 rfl) ?_
                  refine lv_iload hx hb dL_lay_204 (lv_at hl 6 rfl) ?_
                  refine lv_ishr hx hb dL_lay_206 ?_
                  refine lv_bipush (v := (6 : Int32)) hx hb dL_lay_207 (by decide) ?_
                  obtain ⟨q_136, h_q_136, hT⟩ := mx_bind hT
                  refine mx_callS (As := [.int (y2 >>> (w8 &&& 31)), .int ((6 : Int32))]) (rest := []) (st1 := [.int (q_136)]) X Z hl.1 (mL_at l E hJ _ _ _ _ h_q_136) wd_17_3 wd_17_4 wd_10_7 wd_17_5 hdL_at ⟨Nat.le_trans (by decide) hR.1, Nat.le_trans (by decide) hR.2⟩ ⟨Nat.zero_le _, Nat.zero_le _⟩ (Nat.le_of_ble_eq_true rfl) rfl rfl dL_lay_209 (fun H locs Z => ?_)
                  refine lv_if_ne (tgt := 250) hx hb dL_lay_212 (by decide) (fun h_137 => ?_) (fun h_137 => ?_)
                  · replace hT := mx_f hT h_137
                    refine lv_aload_n hx hb dL_lay_250 rfl (lv_at hl 1 rfl) ?_
                    refine lv_bipush (v := (44 : Int32)) hx hb dL_lay_251 (by decide) ?_
                    obtain ⟨q_138, h_q_138, hT⟩ := mx_bind hT
                    refine mx_callV (As := [.int ((44 : Int32))]) (rest := []) (st1 := [.int (q_138.1)]) (C := RX5) (T := TX5) (N := 6) (ci := 5) X Z hl.1 (c5_type l E hJ hy0 _ _ _ h_q_138) wd_21_19 wd_21_20 wd_21_21 wd_1_2 wd_21_22 hd5_type ⟨Nat.le_trans (by decide) hR.1, Nat.le_trans (by decide) hR.2⟩ ⟨Nat.zero_le _, Nat.zero_le _⟩ hy0.i (hy0.c _) rfl (Nat.le_of_ble_eq_true rfl) rfl rfl dL_lay_253 (fun H locs Z => ?_)
                    obtain ⟨v_139, e_v_139, hT⟩ := mx_nm hT
                    refine lv_iinc (v := v_139) (lv' := [(7, .int (v_139)), (0, .ref (mad E (240))), (1, .int (y1)), (2, .int (y2)), (4, .ref (mad E (y4))), (6, .int (y6)), (8, .int (w8))]) hx hb dL_lay_256 hl (k := 0) rfl (by rw [← e_v_139]; rfl) (by decide) rfl (fun ls hl => ?_)
                    refine lv_iload hx hb dL_lay_259 (lv_at hl 0 rfl) ?_
                    refine lv_icmp_eq (tgt := 266) hx hb dL_lay_261 (by decide) (fun h_140 => ?_) (fun h_140 => ?_)
                    · replace hT := mx_t hT h_140
                      obtain ⟨v_141, e_v_141, hT⟩ := mx_nm hT
                      refine lv_iinc (v := v_141) (lv' := [(8, .int (v_141)), (7, .int (v_139)), (0, .ref (mad E (240))), (1, .int (y1)), (2, .int (y2)), (4, .ref (mad E (y4))), (6, .int (y6))]) hx hb dL_lay_266 hl (k := 6) rfl (by rw [← e_v_141]; rfl) (by decide) rfl (fun ls hl => ?_)
                      refine lv_goto (tgt := 44) hx hb dL_lay_269 (by decide) ?_
                      exact ih _ _ _ _ _ _ _ hT Z (lv_sub hl [2, 3, 4, 5, 6, 1, 0] rfl) k0 k1 k2 k3 k4
                    · replace hT := mx_f hT h_140
                      cases hT
                      exact k4 rfl _ _ _ Z (lv_sub hl [1, 2, 3, 4, 5] rfl)
                  · replace hT := mx_t hT h_137
                    refine lv_aload_n hx hb dL_lay_215 rfl (lv_at hl 1 rfl) ?_
                    refine lv_bipush (v := (53 : Int32)) hx hb dL_lay_216 (by decide) ?_
                    obtain ⟨q_142, h_q_142, hT⟩ := mx_bind hT
                    refine mx_callV (As := [.int ((53 : Int32))]) (rest := []) (st1 := [.int (q_142.1)]) (C := RX5) (T := TX5) (N := 6) (ci := 5) X Z hl.1 (c5_type l E hJ hy0 _ _ _ h_q_142) wd_21_19 wd_21_20 wd_21_21 wd_1_2 wd_21_22 hd5_type ⟨Nat.le_trans (by decide) hR.1, Nat.le_trans (by decide) hR.2⟩ ⟨Nat.zero_le _, Nat.zero_le _⟩ hy0.i (hy0.c _) rfl (Nat.le_of_ble_eq_true rfl) rfl rfl dL_lay_218 (fun H locs Z => ?_)
                    refine lv_iload hx hb dL_lay_221 (lv_at hl 0 rfl) ?_
                    refine lv_iconst (v := (1 : Int32)) hx hb dL_lay_223 (by decide) ?_
                    refine lv_iadd hx hb dL_lay_224 ?_
                    refine lv_icmp_ne (tgt := 248) hx hb dL_lay_225 (by decide) (fun h_143 => ?_) (fun h_143 => ?_)
                    · replace hT := mx_f hT h_143
                      cases hT
                      exact k3 rfl _ _ _ Z (lv_sub hl [1, 2, 3, 4, 5] rfl)
                    · replace hT := mx_t hT h_143
                      refine lv_aload_n hx hb dL_lay_228 rfl (lv_at hl 1 rfl) ?_
                      obtain ⟨q_144, h_q_144, hT⟩ := mx_bind hT
                      refine mx_callV (As := []) (rest := []) (st1 := [.int (q_144)]) (C := RX5) (T := TX5) (N := 6) (ci := 5) X Z hl.1 (c5_fault l E hJ hy0 _ _ h_q_144) wd_21_11 wd_21_12 wd_21_13 wd_1_2 wd_21_14 hd5_fault ⟨Nat.le_trans (by decide) hR.1, Nat.le_trans (by decide) hR.2⟩ ⟨Nat.zero_le _, Nat.zero_le _⟩ hy0.i (hy0.c _) rfl (Nat.le_of_ble_eq_true rfl) rfl rfl dL_lay_229 (fun H locs Z => ?_)
                      refine lv_iload hx hb dL_lay_232 (lv_at hl 0 rfl) ?_
                      refine lv_icmp_ne (tgt := 248) hx hb dL_lay_234 (by decide) (fun h_145 => ?_) (fun h_145 => ?_)
                      · replace hT := mx_f hT h_145
                        cases hT
                        exact k3 rfl _ _ _ Z (lv_sub hl [1, 2, 3, 4, 5] rfl)
                      · replace hT := mx_t hT h_145
                        refine lv_aload_n hx hb dL_lay_237 rfl (lv_at hl 1 rfl) ?_
                        refine lv_iload hx hb dL_lay_238 (lv_at hl 6 rfl) ?_
                        refine lv_aload hx hb dL_lay_240 (lv_at hl 4 rfl) ?_
                        obtain ⟨q_146, h_q_146, hT⟩ := mx_bind hT
                        refine mx_callS (As := [.ref (mad E (240)), .int (w8), .ref (mad E (y4))]) (rest := []) (st1 := [.int (q_146.1)]) X Z hl.1 (mL_again l E hJ hy0 hy4 _ _ _ h_q_146) wd_22_3 wd_22_4 wd_10_7 wd_22_5 hdL_again ⟨Nat.le_trans (by decide) hR.1, Nat.le_trans (by decide) hR.2⟩ ⟨Nat.zero_le _, Nat.zero_le _⟩ (Nat.le_of_ble_eq_true rfl) rfl rfl dL_lay_242 (fun H locs Z => ?_)
                        refine lv_if_ne (tgt := 250) hx hb dL_lay_245 (by decide) (fun h_147 => ?_) (fun h_147 => ?_)
                        · replace hT := mx_f hT h_147
                          refine lv_aload_n hx hb dL_lay_250 rfl (lv_at hl 1 rfl) ?_
                          refine lv_bipush (v := (44 : Int32)) hx hb dL_lay_251 (by decide) ?_
                          obtain ⟨q_148, h_q_148, hT⟩ := mx_bind hT
                          refine mx_callV (As := [.int ((44 : Int32))]) (rest := []) (st1 := [.int (q_148.1)]) (C := RX5) (T := TX5) (N := 6) (ci := 5) X Z hl.1 (c5_type l E hJ hy0 _ _ _ h_q_148) wd_21_19 wd_21_20 wd_21_21 wd_1_2 wd_21_22 hd5_type ⟨Nat.le_trans (by decide) hR.1, Nat.le_trans (by decide) hR.2⟩ ⟨Nat.zero_le _, Nat.zero_le _⟩ hy0.i (hy0.c _) rfl (Nat.le_of_ble_eq_true rfl) rfl rfl dL_lay_253 (fun H locs Z => ?_)
                          obtain ⟨v_149, e_v_149, hT⟩ := mx_nm hT
                          refine lv_iinc (v := v_149) (lv' := [(7, .int (v_149)), (0, .ref (mad E (240))), (1, .int (y1)), (2, .int (y2)), (4, .ref (mad E (y4))), (6, .int (y6)), (8, .int (w8))]) hx hb dL_lay_256 hl (k := 0) rfl (by rw [← e_v_149]; rfl) (by decide) rfl (fun ls hl => ?_)
                          refine lv_iload hx hb dL_lay_259 (lv_at hl 0 rfl) ?_
                          refine lv_icmp_eq (tgt := 266) hx hb dL_lay_261 (by decide) (fun h_150 => ?_) (fun h_150 => ?_)
                          · replace hT := mx_t hT h_150
                            obtain ⟨v_151, e_v_151, hT⟩ := mx_nm hT
                            refine lv_iinc (v := v_151) (lv' := [(8, .int (v_151)), (7, .int (v_149)), (0, .ref (mad E (240))), (1, .int (y1)), (2, .int (y2)), (4, .ref (mad E (y4))), (6, .int (y6))]) hx hb dL_lay_266 hl (k := 6) rfl (by rw [← e_v_151]; rfl) (by decide) rfl (fun ls hl => ?_)
                            refine lv_goto (tgt := 44) hx hb dL_lay_269 (by decide) ?_
                            exact ih _ _ _ _ _ _ _ hT Z (lv_sub hl [2, 3, 4, 5, 6, 1, 0] rfl) k0 k1 k2 k3 k4
                          · replace hT := mx_f hT h_150
                            cases hT
                            exact k4 rfl _ _ _ Z (lv_sub hl [1, 2, 3, 4, 5] rfl)
                        · replace hT := mx_t hT h_147
                          cases hT
                          exact k3 rfl _ _ _ Z (lv_sub hl [1, 2, 3, 4, 5] rfl)
                · replace hT := mx_t hT h_135
                  refine lv_goto (tgt := 266) hx hb dL_lay_200 (by decide) ?_
                  obtain ⟨v_152, e_v_152, hT⟩ := mx_nm hT
                  refine lv_iinc (v := v_152) (lv' := [(8, .int (v_152)), (7, .int (v_131)), (0, .ref (mad E (240))), (1, .int (y1)), (2, .int (y2)), (4, .ref (mad E (y4))), (6, .int (y6))]) hx hb dL_lay_266 hl (k := 6) rfl (by rw [← e_v_152]; rfl) (by decide) rfl (fun ls hl => ?_)
                  refine lv_goto (tgt := 44) hx hb dL_lay_269 (by decide) ?_
                  exact ih _ _ _ _ _ _ _ hT Z (lv_sub hl [2, 3, 4, 5, 6, 1, 0] rfl) k0 k1 k2 k3 k4
              · replace hT := mx_t hT h_134
                refine lv_aload_n hx hb dL_lay_175 rfl (lv_at hl 1 rfl) ?_
                refine lv_bipush (v := (112 : Int32)) hx hb dL_lay_176 (by decide) ?_
                obtain ⟨q_153, h_q_153, hT⟩ := mx_bind hT
                refine mx_callV (As := [.int ((112 : Int32))]) (rest := []) (st1 := [.int (q_153.1)]) (C := RX5) (T := TX5) (N := 6) (ci := 5) X Z hl.1 (c5_type l E hJ hy0 _ _ _ h_q_153) wd_21_19 wd_21_20 wd_21_21 wd_1_2 wd_21_22 hd5_type ⟨Nat.le_trans (by decide) hR.1, Nat.le_trans (by decide) hR.2⟩ ⟨Nat.zero_le _, Nat.zero_le _⟩ hy0.i (hy0.c _) rfl (Nat.le_of_ble_eq_true rfl) rfl rfl dL_lay_178 (fun H locs Z => ?_)
                obtain ⟨v_154, e_v_154, hT⟩ := mx_nm hT
                refine lv_iinc (v := v_154) (lv' := [(7, .int (v_154)), (0, .ref (mad E (240))), (1, .int (y1)), (2, .int (y2)), (4, .ref (mad E (y4))), (6, .int (y6)), (8, .int (w8))]) hx hb dL_lay_181 hl (k := 0) rfl (by rw [← e_v_154]; rfl) (by decide) rfl (fun ls hl => ?_)
                refine lv_iload hx hb dL_lay_184 (lv_at hl 0 rfl) ?_
                refine lv_icmp_eq (tgt := 191) hx hb dL_lay_186 (by decide) (fun h_155 => ?_) (fun h_155 => ?_)
                · replace hT := mx_t hT h_155
                  refine lv_iload hx hb dL_lay_191 (lv_at hl 6 rfl) ?_
                  refine lv_iload hx hb dL_lay_193 (lv_at hl 5 rfl) ?_
                  refine lv_iconst (v := (1 : Int32)) hx hb dL_lay_195 (by decide) ?_
                  refine lv_isub hx hb dL_lay_196 ?_
                  refine lv_icmp_ne (tgt := 203) hx hb dL_lay_197 (by decide) (fun h_156 => ?_) (fun h_156 => ?_)
                  · replace hT := mx_f hT h_156
                    refine lv_iload_n hx hb dL_lay_203 rfl (lv_at hl 3 rfl) ?_
                    refine lv_iload hx hb dL_lay_204 (lv_at hl 6 rfl) ?_
                    refine lv_ishr hx hb dL_lay_206 ?_
                    refine lv_bipush (v := (6 : Int32)) hx hb dL_lay_207 (by decide) ?_
                    obtain ⟨q_157, h_q_157, hT⟩ := mx_bind hT
                    refine mx_callS (As := [.int (y2 >>> (w8 &&& 31)), .int ((6 : Int32))]) (rest := []) (st1 := [.int (q_157)]) X Z hl.1 (mL_at l E hJ _ _ _ _ h_q_157) wd_17_3 wd_17_4 wd_10_7 wd_17_5 hdL_at ⟨Nat.le_trans (by decide) hR.1, Nat.le_trans (by decide) hR.2⟩ ⟨Nat.zero_le _, Nat.zero_le _⟩ (Nat.le_of_ble_eq_true rfl) rfl rfl dL_lay_209 (fun H locs Z => ?_)
                    refine lv_if_ne (tgt := 250) hx hb dL_lay_212 (by decide) (fun h_158 => ?_) (fun h_158 => ?_)
                    · replace hT := mx_f hT h_158
                      refine lv_aload_n hx hb dL_lay_250 rfl (lv_at hl 1 rfl) ?_
                      refine lv_bipush (v := (44 : Int32)) hx hb dL_lay_251 (by decide) ?_
                      obtain ⟨q_159, h_q_159, hT⟩ := mx_bind hT
                      refine mx_callV (As := [.int ((44 : Int32))]) (rest := []) (st1 := [.int (q_159.1)]) (C := RX5) (T := TX5) (N := 6) (ci := 5) X Z hl.1 (c5_type l E hJ hy0 _ _ _ h_q_159) wd_21_19 wd_21_20 wd_21_21 wd_1_2 wd_21_22 hd5_type ⟨Nat.le_trans (by decide) hR.1, Nat.le_trans (by decide) hR.2⟩ ⟨Nat.zero_le _, Nat.zero_le _⟩ hy0.i (hy0.c _) rfl (Nat.le_of_ble_eq_true rfl) rfl rfl dL_lay_253 (fun H locs Z => ?_)
                      obtain ⟨v_160, e_v_160, hT⟩ := mx_nm hT
                      refine lv_iinc (v := v_160) (lv' := [(7, .int (v_160)), (0, .ref (mad E (240))), (1, .int (y1)), (2, .int (y2)), (4, .ref (mad E (y4))), (6, .int (y6)), (8, .int (w8))]) hx hb dL_lay_256 hl (k := 0) rfl (by rw [← e_v_160]; rfl) (by decide) rfl (fun ls hl => ?_)
                      refine lv_iload hx hb dL_lay_259 (lv_at hl 0 rfl) ?_
                      refine lv_icmp_eq (tgt := 266) hx hb dL_lay_261 (by decide) (fun h_161 => ?_) (fun h_161 => ?_)
                      · replace hT := mx_t hT h_161
                        obtain ⟨v_162, e_v_162, hT⟩ := mx_nm hT
                        refine lv_iinc (v := v_162) (lv' := [(8, .int (v_162)), (7, .int (v_160)), (0, .ref (mad E (240))), (1, .int (y1)), (2, .int (y2)), (4, .ref (mad E (y4))), (6, .int (y6))]) hx hb dL_lay_266 hl (k := 6) rfl (by rw [← e_v_162]; rfl) (by decide) rfl (fun ls hl => ?_)
                        refine lv_goto (tgt := 44) hx hb dL_lay_269 (by decide) ?_
                        exact ih _ _ _ _ _ _ _ hT Z (lv_sub hl [2, 3, 4, 5, 6, 1, 0] rfl) k0 k1 k2 k3 k4
                      · replace hT := mx_f hT h_161
                        cases hT
                        exact k4 rfl _ _ _ Z (lv_sub hl [1, 2, 3, 4, 5] rfl)
                    · replace hT := mx_t hT h_158
                      refine lv_aload_n hx hb dL_lay_215 rfl (lv_at hl 1 rfl) ?_
                      refine lv_bipush (v := (53 : Int32)) hx hb dL_lay_216 (by decide) ?_
                      obtain ⟨q_163, h_q_163, hT⟩ := mx_bind hT
                      refine mx_callV (As := [.int ((53 : Int32))]) (rest := []) (st1 := [.int (q_163.1)]) (C := RX5) (T := TX5) (N := 6) (ci := 5) X Z hl.1 (c5_type l E hJ hy0 _ _ _ h_q_163) wd_21_19 wd_21_20 wd_21_21 wd_1_2 wd_21_22 hd5_type ⟨Nat.le_trans (by decide) hR.1, Nat.le_trans (by decide) hR.2⟩ ⟨Nat.zero_le _, Nat.zero_le _⟩ hy0.i (hy0.c _) rfl (Nat.le_of_ble_eq_true rfl) rfl rfl dL_lay_218 (fun H locs Z => ?_)
                      refine lv_iload hx hb dL_lay_221 (lv_at hl 0 rfl) ?_
                      refine lv_iconst (v := (1 : Int32)) hx hb dL_lay_223 (by decide) ?_
                      refine lv_iadd hx hb dL_lay_224 ?_
                      refine lv_icmp_ne (tgt := 248) hx hb dL_lay_225 (by decide) (fun h_164 => ?_) (fun h_164 => ?_)
                      · replace hT := mx_f hT h_164
                        cases hT
                        exact k3 rfl _ _ _ Z (lv_sub hl [1, 2, 3, 4, 5] rfl)
                      · replace hT := mx_t hT h_164
                        refine lv_aload_n hx hb dL_lay_228 rfl (lv_at hl 1 rfl) ?_
                        obtain ⟨q_165, h_q_165, hT⟩ := mx_bind hT
                        refine mx_callV (As := []) (rest := []) (st1 := [.int (q_165)]) (C := RX5) (T := TX5) (N := 6) (ci := 5) X Z hl.1 (c5_fault l E hJ hy0 _ _ h_q_165) wd_21_11 wd_21_12 wd_21_13 wd_1_2 wd_21_14 hd5_fault ⟨Nat.le_trans (by decide) hR.1, Nat.le_trans (by decide) hR.2⟩ ⟨Nat.zero_le _, Nat.zero_le _⟩ hy0.i (hy0.c _) rfl (Nat.le_of_ble_eq_true rfl) rfl rfl dL_lay_229 (fun H locs Z => ?_)
                        refine lv_iload hx hb dL_lay_232 (lv_at hl 0 rfl) ?_
                        refine lv_icmp_ne (tgt := 248) hx hb dL_lay_234 (by decide) (fun h_166 => ?_) (fun h_166 => ?_)
                        · replace hT := mx_f hT h_166
                          cases hT
                          exact k3 rfl _ _ _ Z (lv_sub hl [1, 2, 3, 4, 5] rfl)
                        · replace hT := mx_t hT h_166
                          refine lv_aload_n hx hb dL_lay_237 rfl (lv_at hl 1 rfl) ?_
                          refine lv_iload hx hb dL_lay_238 (lv_at hl 6 rfl) ?_
                          refine lv_aload hx hb dL_lay_240 (lv_at hl 4 rfl) ?_
                          obtain ⟨q_167, h_q_167, hT⟩ := mx_bind hT
                          refine mx_callS (As := [.ref (mad E (240)), .int (w8), .ref (mad E (y4))]) (rest := []) (st1 := [.int (q_167.1)]) X Z hl.1 (mL_again l E hJ hy0 hy4 _ _ _ h_q_167) wd_22_3 wd_22_4 wd_10_7 wd_22_5 hdL_again ⟨Nat.le_trans (by decide) hR.1, Nat.le_trans (by decide) hR.2⟩ ⟨Nat.zero_le _, Nat.zero_le _⟩ (Nat.le_of_ble_eq_true rfl) rfl rfl dL_lay_242 (fun H locs Z => ?_)
                          refine lv_if_ne (tgt := 250) hx hb dL_lay_245 (by decide) (fun h_168 => ?_) (fun h_168 => ?_)
                          · replace hT := mx_f hT h_168
                            refine lv_aload_n hx hb dL_lay_250 rfl (lv_at hl 1 rfl) ?_
                            refine lv_bipush (v := (44 : Int32)) hx hb dL_lay_251 (by decide) ?_
                            obtain ⟨q_169, h_q_169, hT⟩ := mx_bind hT
                            refine mx_callV (As := [.int ((44 : Int32))]) (rest := []) (st1 := [.int (q_169.1)]) (C := RX5) (T := TX5) (N := 6) (ci := 5) X Z hl.1 (c5_type l E hJ hy0 _ _ _ h_q_169) wd_21_19 wd_21_20 wd_21_21 wd_1_2 wd_21_22 hd5_type ⟨Nat.le_trans (by decide) hR.1, Nat.le_trans (by decide) hR.2⟩ ⟨Nat.zero_le _, Nat.zero_le _⟩ hy0.i (hy0.c _) rfl (Nat.le_of_ble_eq_true rfl) rfl rfl dL_lay_253 (fun H locs Z => ?_)
                            obtain ⟨v_170, e_v_170, hT⟩ := mx_nm hT
                            refine lv_iinc (v := v_170) (lv' := [(7, .int (v_170)), (0, .ref (mad E (240))), (1, .int (y1)), (2, .int (y2)), (4, .ref (mad E (y4))), (6, .int (y6)), (8, .int (w8))]) hx hb dL_lay_256 hl (k := 0) rfl (by rw [← e_v_170]; rfl) (by decide) rfl (fun ls hl => ?_)
                            refine lv_iload hx hb dL_lay_259 (lv_at hl 0 rfl) ?_
                            refine lv_icmp_eq (tgt := 266) hx hb dL_lay_261 (by decide) (fun h_171 => ?_) (fun h_171 => ?_)
                            · replace hT := mx_t hT h_171
                              obtain ⟨v_172, e_v_172, hT⟩ := mx_nm hT
                              refine lv_iinc (v := v_172) (lv' := [(8, .int (v_172)), (7, .int (v_170)), (0, .ref (mad E (240))), (1, .int (y1)), (2, .int (y2)), (4, .ref (mad E (y4))), (6, .int (y6))]) hx hb dL_lay_266 hl (k := 6) rfl (by rw [← e_v_172]; rfl) (by decide) rfl (fun ls hl => ?_)
                              refine lv_goto (tgt := 44) hx hb dL_lay_269 (by decide) ?_
                              exact ih _ _ _ _ _ _ _ hT Z (lv_sub hl [2, 3, 4, 5, 6, 1, 0] rfl) k0 k1 k2 k3 k4
                            · replace hT := mx_f hT h_171
                              cases hT
                              exact k4 rfl _ _ _ Z (lv_sub hl [1, 2, 3, 4, 5] rfl)
                          · replace hT := mx_t hT h_168
                            cases hT
                            exact k3 rfl _ _ _ Z (lv_sub hl [1, 2, 3, 4, 5] rfl)
                  · replace hT := mx_t hT h_156
                    refine lv_goto (tgt := 266) hx hb dL_lay_200 (by decide) ?_
                    obtain ⟨v_173, e_v_173, hT⟩ := mx_nm hT
                    refine lv_iinc (v := v_173) (lv' := [(8, .int (v_173)), (7, .int (v_154)), (0, .ref (mad E (240))), (1, .int (y1)), (2, .int (y2)), (4, .ref (mad E (y4))), (6, .int (y6))]) hx hb dL_lay_266 hl (k := 6) rfl (by rw [← e_v_173]; rfl) (by decide) rfl (fun ls hl => ?_)
                    refine lv_goto (tgt := 44) hx hb dL_lay_269 (by decide) ?_
                    exact ih _ _ _ _ _ _ _ hT Z (lv_sub hl [2, 3, 4, 5, 6, 1, 0] rfl) k0 k1 k2 k3 k4
                · replace hT := mx_f hT h_155
                  cases hT
                  exact k2 rfl _ _ _ Z (lv_sub hl [1, 2, 3, 4, 5] rfl)
          · replace hT := mx_t hT h_124
            refine lv_iconst (v := (1 : Int32)) hx hb dL_lay_124 (by decide) ?_
            refine lv_goto (tgt := 129) hx hb dL_lay_125 (by decide) ?_
            obtain ⟨h_174, hT⟩ := mx_chk hT
            obtain ⟨G_175, e_G_175, hT⟩ := mx_nm hT
            refine mx_iast X Z hy4 h_174 dL_lay_129 (fun H locs Z => ?_)
            rw [e_G_175] at Z
            refine lv_aload hx hb dL_lay_130 (lv_at hl 3 rfl) ?_
            refine lv_iconst (v := (3 : Int32)) hx hb dL_lay_132 (by decide) ?_
            refine lv_iload hx hb dL_lay_133 (lv_at hl 6 rfl) ?_
            refine lv_imul hx hb dL_lay_135 ?_
            refine lv_iconst (v := (2 : Int32)) hx hb dL_lay_136 (by decide) ?_
            refine lv_iadd hx hb dL_lay_137 ?_
            refine lv_iconst (v := (0 : Int32)) hx hb dL_lay_138 (by decide) ?_
            obtain ⟨h_176, hT⟩ := mx_chk hT
            obtain ⟨G_177, e_G_177, hT⟩ := mx_nm hT
            refine mx_iast X Z hy4 h_176 dL_lay_139 (fun H locs Z => ?_)
            rw [e_G_177] at Z
            refine lv_aload_n hx hb dL_lay_140 rfl (lv_at hl 0 rfl) ?_
            refine lv_bipush (v := (48 : Int32)) hx hb dL_lay_141 (by decide) ?_
            refine lv_aload hx hb dL_lay_143 (lv_at hl 3 rfl) ?_
            refine lv_iconst (v := (3 : Int32)) hx hb dL_lay_145 (by decide) ?_
            refine lv_iload hx hb dL_lay_146 (lv_at hl 6 rfl) ?_
            refine lv_imul hx hb dL_lay_148 ?_
            obtain ⟨h_178, hT⟩ := mx_chk hT
            refine mx_iald X Z hy4 h_178 dL_lay_149 ?_
            refine lv_iadd hx hb dL_lay_150 ?_
            obtain ⟨q_179, h_q_179, hT⟩ := mx_bind hT
            refine mx_callV (As := [.int (((48 : Int32)) + (G_177 y4 ((((3 : Int32)) * w8).toNatClampNeg)))]) (rest := []) (st1 := [.int (q_179.1)]) (C := RX5) (T := TX5) (N := 6) (ci := 5) X Z hl.1 (c5_type l E hJ hy0 _ _ _ h_q_179) wd_21_19 wd_21_20 wd_21_21 wd_1_2 wd_21_22 hd5_type ⟨Nat.le_trans (by decide) hR.1, Nat.le_trans (by decide) hR.2⟩ ⟨Nat.zero_le _, Nat.zero_le _⟩ hy0.i (hy0.c _) rfl (Nat.le_of_ble_eq_true rfl) rfl rfl dL_lay_151 (fun H locs Z => ?_)
            obtain ⟨v_180, e_v_180, hT⟩ := mx_nm hT
            refine lv_iinc (v := v_180) (lv' := [(7, .int (v_180)), (0, .ref (mad E (240))), (1, .int (y1)), (2, .int (y2)), (4, .ref (mad E (y4))), (6, .int (y6)), (8, .int (w8))]) hx hb dL_lay_154 hl (k := 5) rfl (by rw [← e_v_180]; rfl) (by decide) rfl (fun ls hl => ?_)
            refine lv_iload hx hb dL_lay_157 (lv_at hl 0 rfl) ?_
            refine lv_icmp_ne (tgt := 189) hx hb dL_lay_159 (by decide) (fun h_181 => ?_) (fun h_181 => ?_)
            · replace hT := mx_f hT h_181
              cases hT
              exact k2 rfl _ _ _ Z (lv_sub hl [1, 2, 3, 4, 5] rfl)
            · replace hT := mx_t hT h_181
              refine lv_aload hx hb dL_lay_162 (lv_at hl 4 rfl) ?_
              refine lv_iconst (v := (3 : Int32)) hx hb dL_lay_164 (by decide) ?_
              refine lv_iload hx hb dL_lay_165 (lv_at hl 6 rfl) ?_
              refine lv_imul hx hb dL_lay_167 ?_
              refine lv_iconst (v := (1 : Int32)) hx hb dL_lay_168 (by decide) ?_
              refine lv_iadd hx hb dL_lay_169 ?_
              obtain ⟨h_182, hT⟩ := mx_chk hT
              refine mx_iald X Z hy4 h_182 dL_lay_170 ?_
              refine lv_iconst (v := (1 : Int32)) hx hb dL_lay_171 (by decide) ?_
              refine lv_icmp_ne (tgt := 191) hx hb dL_lay_172 (by decide) (fun h_183 => ?_) (fun h_183 => ?_)
              · replace hT := mx_f hT h_183
                refine lv_iload hx hb dL_lay_191 (lv_at hl 6 rfl) ?_
                refine lv_iload hx hb dL_lay_193 (lv_at hl 5 rfl) ?_
                refine lv_iconst (v := (1 : Int32)) hx hb dL_lay_195 (by decide) ?_
                refine lv_isub hx hb dL_lay_196 ?_
                refine lv_icmp_ne (tgt := 203) hx hb dL_lay_197 (by decide) (fun h_184 => ?_) (fun h_184 => ?_)
                · replace hT := mx_f hT h_184
                  refine lv_iload_n hx hb dL_lay_203 rfl (lv_at hl 3 rfl) ?_
                  refine lv_iload hx hb dL_lay_204 (lv_at hl 6 rfl) ?_
                  refine lv_ishr hx hb dL_lay_206 ?_
                  refine lv_bipush (v := (6 : Int32)) hx hb dL_lay_207 (by decide) ?_
                  obtain ⟨q_185, h_q_185, hT⟩ := mx_bind hT
                  refine mx_callS (As := [.int (y2 >>> (w8 &&& 31)), .int ((6 : Int32))]) (rest := []) (st1 := [.int (q_185)]) X Z hl.1 (mL_at l E hJ _ _ _ _ h_q_185) wd_17_3 wd_17_4 wd_10_7 wd_17_5 hdL_at ⟨Nat.le_trans (by decide) hR.1, Nat.le_trans (by decide) hR.2⟩ ⟨Nat.zero_le _, Nat.zero_le _⟩ (Nat.le_of_ble_eq_true rfl) rfl rfl dL_lay_209 (fun H locs Z => ?_)
                  refine lv_if_ne (tgt := 250) hx hb dL_lay_212 (by decide) (fun h_186 => ?_) (fun h_186 => ?_)
                  · replace hT := mx_f hT h_186
                    refine lv_aload_n hx hb dL_lay_250 rfl (lv_at hl 1 rfl) ?_
                    refine lv_bipush (v := (44 : Int32)) hx hb dL_lay_251 (by decide) ?_
                    obtain ⟨q_187, h_q_187, hT⟩ := mx_bind hT
                    refine mx_callV (As := [.int ((44 : Int32))]) (rest := []) (st1 := [.int (q_187.1)]) (C := RX5) (T := TX5) (N := 6) (ci := 5) X Z hl.1 (c5_type l E hJ hy0 _ _ _ h_q_187) wd_21_19 wd_21_20 wd_21_21 wd_1_2 wd_21_22 hd5_type ⟨Nat.le_trans (by decide) hR.1, Nat.le_trans (by decide) hR.2⟩ ⟨Nat.zero_le _, Nat.zero_le _⟩ hy0.i (hy0.c _) rfl (Nat.le_of_ble_eq_true rfl) rfl rfl dL_lay_253 (fun H locs Z => ?_)
                    obtain ⟨v_188, e_v_188, hT⟩ := mx_nm hT
                    refine lv_iinc (v := v_188) (lv' := [(7, .int (v_188)), (0, .ref (mad E (240))), (1, .int (y1)), (2, .int (y2)), (4, .ref (mad E (y4))), (6, .int (y6)), (8, .int (w8))]) hx hb dL_lay_256 hl (k := 0) rfl (by rw [← e_v_188]; rfl) (by decide) rfl (fun ls hl => ?_)
                    refine lv_iload hx hb dL_lay_259 (lv_at hl 0 rfl) ?_
                    refine lv_icmp_eq (tgt := 266) hx hb dL_lay_261 (by decide) (fun h_189 => ?_) (fun h_189 => ?_)
                    · replace hT := mx_t hT h_189
                      obtain ⟨v_190, e_v_190, hT⟩ := mx_nm hT
                      refine lv_iinc (v := v_190) (lv' := [(8, .int (v_190)), (7, .int (v_188)), (0, .ref (mad E (240))), (1, .int (y1)), (2, .int (y2)), (4, .ref (mad E (y4))), (6, .int (y6))]) hx hb dL_lay_266 hl (k := 6) rfl (by rw [← e_v_190]; rfl) (by decide) rfl (fun ls hl => ?_)
                      refine lv_goto (tgt := 44) hx hb dL_lay_269 (by decide) ?_
                      exact ih _ _ _ _ _ _ _ hT Z (lv_sub hl [2, 3, 4, 5, 6, 1, 0] rfl) k0 k1 k2 k3 k4
                    · replace hT := mx_f hT h_189
                      cases hT
                      exact k4 rfl _ _ _ Z (lv_sub hl [1, 2, 3, 4, 5] rfl)
                  · replace hT := mx_t hT h_186
                    refine lv_aload_n hx hb dL_lay_215 rfl (lv_at hl 1 rfl) ?_
                    refine lv_bipush (v := (53 : Int32)) hx hb dL_lay_216 (by decide) ?_
                    obtain ⟨q_191, h_q_191, hT⟩ := mx_bind hT
                    refine mx_callV (As := [.int ((53 : Int32))]) (rest := []) (st1 := [.int (q_191.1)]) (C := RX5) (T := TX5) (N := 6) (ci := 5) X Z hl.1 (c5_type l E hJ hy0 _ _ _ h_q_191) wd_21_19 wd_21_20 wd_21_21 wd_1_2 wd_21_22 hd5_type ⟨Nat.le_trans (by decide) hR.1, Nat.le_trans (by decide) hR.2⟩ ⟨Nat.zero_le _, Nat.zero_le _⟩ hy0.i (hy0.c _) rfl (Nat.le_of_ble_eq_true rfl) rfl rfl dL_lay_218 (fun H locs Z => ?_)
                    refine lv_iload hx hb dL_lay_221 (lv_at hl 0 rfl) ?_
                    refine lv_iconst (v := (1 : Int32)) hx hb dL_lay_223 (by decide) ?_
                    refine lv_iadd hx hb dL_lay_224 ?_
                    refine lv_icmp_ne (tgt := 248) hx hb dL_lay_225 (by decide) (fun h_192 => ?_) (fun h_192 => ?_)
                    · replace hT := mx_f hT h_192
                      cases hT
                      exact k3 rfl _ _ _ Z (lv_sub hl [1, 2, 3, 4, 5] rfl)
                    · replace hT := mx_t hT h_192
                      refine lv_aload_n hx hb dL_lay_228 rfl (lv_at hl 1 rfl) ?_
                      obtain ⟨q_193, h_q_193, hT⟩ := mx_bind hT
                      refine mx_callV (As := []) (rest := []) (st1 := [.int (q_193)]) (C := RX5) (T := TX5) (N := 6) (ci := 5) X Z hl.1 (c5_fault l E hJ hy0 _ _ h_q_193) wd_21_11 wd_21_12 wd_21_13 wd_1_2 wd_21_14 hd5_fault ⟨Nat.le_trans (by decide) hR.1, Nat.le_trans (by decide) hR.2⟩ ⟨Nat.zero_le _, Nat.zero_le _⟩ hy0.i (hy0.c _) rfl (Nat.le_of_ble_eq_true rfl) rfl rfl dL_lay_229 (fun H locs Z => ?_)
                      refine lv_iload hx hb dL_lay_232 (lv_at hl 0 rfl) ?_
                      refine lv_icmp_ne (tgt := 248) hx hb dL_lay_234 (by decide) (fun h_194 => ?_) (fun h_194 => ?_)
                      · replace hT := mx_f hT h_194
                        cases hT
                        exact k3 rfl _ _ _ Z (lv_sub hl [1, 2, 3, 4, 5] rfl)
                      · replace hT := mx_t hT h_194
                        refine lv_aload_n hx hb dL_lay_237 rfl (lv_at hl 1 rfl) ?_
                        refine lv_iload hx hb dL_lay_238 (lv_at hl 6 rfl) ?_
                        refine lv_aload hx hb dL_lay_240 (lv_at hl 4 rfl) ?_
                        obtain ⟨q_195, h_q_195, hT⟩ := mx_bind hT
                        refine mx_callS (As := [.ref (mad E (240)), .int (w8), .ref (mad E (y4))]) (rest := []) (st1 := [.int (q_195.1)]) X Z hl.1 (mL_again l E hJ hy0 hy4 _ _ _ h_q_195) wd_22_3 wd_22_4 wd_10_7 wd_22_5 hdL_again ⟨Nat.le_trans (by decide) hR.1, Nat.le_trans (by decide) hR.2⟩ ⟨Nat.zero_le _, Nat.zero_le _⟩ (Nat.le_of_ble_eq_true rfl) rfl rfl dL_lay_242 (fun H locs Z => ?_)
                        refine lv_if_ne (tgt := 250) hx hb dL_lay_245 (by decide) (fun h_196 => ?_) (fun h_196 => ?_)
                        · replace hT := mx_f hT h_196
                          refine lv_aload_n hx hb dL_lay_250 rfl (lv_at hl 1 rfl) ?_
                          refine lv_bipush (v := (44 : Int32)) hx hb dL_lay_251 (by decide) ?_
                          obtain ⟨q_197, h_q_197, hT⟩ := mx_bind hT
                          refine mx_callV (As := [.int ((44 : Int32))]) (rest := []) (st1 := [.int (q_197.1)]) (C := RX5) (T := TX5) (N := 6) (ci := 5) X Z hl.1 (c5_type l E hJ hy0 _ _ _ h_q_197) wd_21_19 wd_21_20 wd_21_21 wd_1_2 wd_21_22 hd5_type ⟨Nat.le_trans (by decide) hR.1, Nat.le_trans (by decide) hR.2⟩ ⟨Nat.zero_le _, Nat.zero_le _⟩ hy0.i (hy0.c _) rfl (Nat.le_of_ble_eq_true rfl) rfl rfl dL_lay_253 (fun H locs Z => ?_)
                          obtain ⟨v_198, e_v_198, hT⟩ := mx_nm hT
                          refine lv_iinc (v := v_198) (lv' := [(7, .int (v_198)), (0, .ref (mad E (240))), (1, .int (y1)), (2, .int (y2)), (4, .ref (mad E (y4))), (6, .int (y6)), (8, .int (w8))]) hx hb dL_lay_256 hl (k := 0) rfl (by rw [← e_v_198]; rfl) (by decide) rfl (fun ls hl => ?_)
                          refine lv_iload hx hb dL_lay_259 (lv_at hl 0 rfl) ?_
                          refine lv_icmp_eq (tgt := 266) hx hb dL_lay_261 (by decide) (fun h_199 => ?_) (fun h_199 => ?_)
                          · replace hT := mx_t hT h_199
                            obtain ⟨v_200, e_v_200, hT⟩ := mx_nm hT
                            refine lv_iinc (v := v_200) (lv' := [(8, .int (v_200)), (7, .int (v_198)), (0, .ref (mad E (240))), (1, .int (y1)), (2, .int (y2)), (4, .ref (mad E (y4))), (6, .int (y6))]) hx hb dL_lay_266 hl (k := 6) rfl (by rw [← e_v_200]; rfl) (by decide) rfl (fun ls hl => ?_)
                            refine lv_goto (tgt := 44) hx hb dL_lay_269 (by decide) ?_
                            exact ih _ _ _ _ _ _ _ hT Z (lv_sub hl [2, 3, 4, 5, 6, 1, 0] rfl) k0 k1 k2 k3 k4
                          · replace hT := mx_f hT h_199
                            cases hT
                            exact k4 rfl _ _ _ Z (lv_sub hl [1, 2, 3, 4, 5] rfl)
                        · replace hT := mx_t hT h_196
                          cases hT
                          exact k3 rfl _ _ _ Z (lv_sub hl [1, 2, 3, 4, 5] rfl)
                · replace hT := mx_t hT h_184
                  refine lv_goto (tgt := 266) hx hb dL_lay_200 (by decide) ?_
                  obtain ⟨v_201, e_v_201, hT⟩ := mx_nm hT
                  refine lv_iinc (v := v_201) (lv' := [(8, .int (v_201)), (7, .int (v_180)), (0, .ref (mad E (240))), (1, .int (y1)), (2, .int (y2)), (4, .ref (mad E (y4))), (6, .int (y6))]) hx hb dL_lay_266 hl (k := 6) rfl (by rw [← e_v_201]; rfl) (by decide) rfl (fun ls hl => ?_)
                  refine lv_goto (tgt := 44) hx hb dL_lay_269 (by decide) ?_
                  exact ih _ _ _ _ _ _ _ hT Z (lv_sub hl [2, 3, 4, 5, 6, 1, 0] rfl) k0 k1 k2 k3 k4
              · replace hT := mx_t hT h_183
                refine lv_aload_n hx hb dL_lay_175 rfl (lv_at hl 1 rfl) ?_
                refine lv_bipush (v := (112 : Int32)) hx hb dL_lay_176 (by decide) ?_
                obtain ⟨q_202, h_q_202, hT⟩ := mx_bind hT
                refine mx_callV (As := [.int ((112 : Int32))]) (rest := []) (st1 := [.int (q_202.1)]) (C := RX5) (T := TX5) (N := 6) (ci := 5) X Z hl.1 (c5_type l E hJ hy0 _ _ _ h_q_202) wd_21_19 wd_21_20 wd_21_21 wd_1_2 wd_21_22 hd5_type ⟨Nat.le_trans (by decide) hR.1, Nat.le_trans (by decide) hR.2⟩ ⟨Nat.zero_le _, Nat.zero_le _⟩ hy0.i (hy0.c _) rfl (Nat.le_of_ble_eq_true rfl) rfl rfl dL_lay_178 (fun H locs Z => ?_)
                obtain ⟨v_203, e_v_203, hT⟩ := mx_nm hT
                refine lv_iinc (v := v_203) (lv' := [(7, .int (v_203)), (0, .ref (mad E (240))), (1, .int (y1)), (2, .int (y2)), (4, .ref (mad E (y4))), (6, .int (y6)), (8, .int (w8))]) hx hb dL_lay_181 hl (k := 0) rfl (by rw [← e_v_203]; rfl) (by decide) rfl (fun ls hl => ?_)
                refine lv_iload hx hb dL_lay_184 (lv_at hl 0 rfl) ?_
                refine lv_icmp_eq (tgt := 191) hx hb dL_lay_186 (by decide) (fun h_204 => ?_) (fun h_204 => ?_)
                · replace hT := mx_t hT h_204
                  refine lv_iload hx hb dL_lay_191 (lv_at hl 6 rfl) ?_
                  refine lv_iload hx hb dL_lay_193 (lv_at hl 5 rfl) ?_
                  refine lv_iconst (v := (1 : Int32)) hx hb dL_lay_195 (by decide) ?_
                  refine lv_isub hx hb dL_lay_196 ?_
                  refine lv_icmp_ne (tgt := 203) hx hb dL_lay_197 (by decide) (fun h_205 => ?_) (fun h_205 => ?_)
                  · replace hT := mx_f hT h_205
                    refine lv_iload_n hx hb dL_lay_203 rfl (lv_at hl 3 rfl) ?_
                    refine lv_iload hx hb dL_lay_204 (lv_at hl 6 rfl) ?_
                    refine lv_ishr hx hb dL_lay_206 ?_
                    refine lv_bipush (v := (6 : Int32)) hx hb dL_lay_207 (by decide) ?_
                    obtain ⟨q_206, h_q_206, hT⟩ := mx_bind hT
                    refine mx_callS (As := [.int (y2 >>> (w8 &&& 31)), .int ((6 : Int32))]) (rest := []) (st1 := [.int (q_206)]) X Z hl.1 (mL_at l E hJ _ _ _ _ h_q_206) wd_17_3 wd_17_4 wd_10_7 wd_17_5 hdL_at ⟨Nat.le_trans (by decide) hR.1, Nat.le_trans (by decide) hR.2⟩ ⟨Nat.zero_le _, Nat.zero_le _⟩ (Nat.le_of_ble_eq_true rfl) rfl rfl dL_lay_209 (fun H locs Z => ?_)
                    refine lv_if_ne (tgt := 250) hx hb dL_lay_212 (by decide) (fun h_207 => ?_) (fun h_207 => ?_)
                    · replace hT := mx_f hT h_207
                      refine lv_aload_n hx hb dL_lay_250 rfl (lv_at hl 1 rfl) ?_
                      refine lv_bipush (v := (44 : Int32)) hx hb dL_lay_251 (by decide) ?_
                      obtain ⟨q_208, h_q_208, hT⟩ := mx_bind hT
                      refine mx_callV (As := [.int ((44 : Int32))]) (rest := []) (st1 := [.int (q_208.1)]) (C := RX5) (T := TX5) (N := 6) (ci := 5) X Z hl.1 (c5_type l E hJ hy0 _ _ _ h_q_208) wd_21_19 wd_21_20 wd_21_21 wd_1_2 wd_21_22 hd5_type ⟨Nat.le_trans (by decide) hR.1, Nat.le_trans (by decide) hR.2⟩ ⟨Nat.zero_le _, Nat.zero_le _⟩ hy0.i (hy0.c _) rfl (Nat.le_of_ble_eq_true rfl) rfl rfl dL_lay_253 (fun H locs Z => ?_)
                      obtain ⟨v_209, e_v_209, hT⟩ := mx_nm hT
                      refine lv_iinc (v := v_209) (lv' := [(7, .int (v_209)), (0, .ref (mad E (240))), (1, .int (y1)), (2, .int (y2)), (4, .ref (mad E (y4))), (6, .int (y6)), (8, .int (w8))]) hx hb dL_lay_256 hl (k := 0) rfl (by rw [← e_v_209]; rfl) (by decide) rfl (fun ls hl => ?_)
                      refine lv_iload hx hb dL_lay_259 (lv_at hl 0 rfl) ?_
                      refine lv_icmp_eq (tgt := 266) hx hb dL_lay_261 (by decide) (fun h_210 => ?_) (fun h_210 => ?_)
                      · replace hT := mx_t hT h_210
                        obtain ⟨v_211, e_v_211, hT⟩ := mx_nm hT
                        refine lv_iinc (v := v_211) (lv' := [(8, .int (v_211)), (7, .int (v_209)), (0, .ref (mad E (240))), (1, .int (y1)), (2, .int (y2)), (4, .ref (mad E (y4))), (6, .int (y6))]) hx hb dL_lay_266 hl (k := 6) rfl (by rw [← e_v_211]; rfl) (by decide) rfl (fun ls hl => ?_)
                        refine lv_goto (tgt := 44) hx hb dL_lay_269 (by decide) ?_
                        exact ih _ _ _ _ _ _ _ hT Z (lv_sub hl [2, 3, 4, 5, 6, 1, 0] rfl) k0 k1 k2 k3 k4
                      · replace hT := mx_f hT h_210
                        cases hT
                        exact k4 rfl _ _ _ Z (lv_sub hl [1, 2, 3, 4, 5] rfl)
                    · replace hT := mx_t hT h_207
                      refine lv_aload_n hx hb dL_lay_215 rfl (lv_at hl 1 rfl) ?_
                      refine lv_bipush (v := (53 : Int32)) hx hb dL_lay_216 (by decide) ?_
                      obtain ⟨q_212, h_q_212, hT⟩ := mx_bind hT
                      refine mx_callV (As := [.int ((53 : Int32))]) (rest := []) (st1 := [.int (q_212.1)]) (C := RX5) (T := TX5) (N := 6) (ci := 5) X Z hl.1 (c5_type l E hJ hy0 _ _ _ h_q_212) wd_21_19 wd_21_20 wd_21_21 wd_1_2 wd_21_22 hd5_type ⟨Nat.le_trans (by decide) hR.1, Nat.le_trans (by decide) hR.2⟩ ⟨Nat.zero_le _, Nat.zero_le _⟩ hy0.i (hy0.c _) rfl (Nat.le_of_ble_eq_true rfl) rfl rfl dL_lay_218 (fun H locs Z => ?_)
                      refine lv_iload hx hb dL_lay_221 (lv_at hl 0 rfl) ?_
                      refine lv_iconst (v := (1 : Int32)) hx hb dL_lay_223 (by decide) ?_
                      refine lv_iadd hx hb dL_lay_224 ?_
                      refine lv_icmp_ne (tgt := 248) hx hb dL_lay_225 (by decide) (fun h_213 => ?_) (fun h_213 => ?_)
                      · replace hT := mx_f hT h_213
                        cases hT
                        exact k3 rfl _ _ _ Z (lv_sub hl [1, 2, 3, 4, 5] rfl)
                      · replace hT := mx_t hT h_213
                        refine lv_aload_n hx hb dL_lay_228 rfl (lv_at hl 1 rfl) ?_
                        obtain ⟨q_214, h_q_214, hT⟩ := mx_bind hT
                        refine mx_callV (As := []) (rest := []) (st1 := [.int (q_214)]) (C := RX5) (T := TX5) (N := 6) (ci := 5) X Z hl.1 (c5_fault l E hJ hy0 _ _ h_q_214) wd_21_11 wd_21_12 wd_21_13 wd_1_2 wd_21_14 hd5_fault ⟨Nat.le_trans (by decide) hR.1, Nat.le_trans (by decide) hR.2⟩ ⟨Nat.zero_le _, Nat.zero_le _⟩ hy0.i (hy0.c _) rfl (Nat.le_of_ble_eq_true rfl) rfl rfl dL_lay_229 (fun H locs Z => ?_)
                        refine lv_iload hx hb dL_lay_232 (lv_at hl 0 rfl) ?_
                        refine lv_icmp_ne (tgt := 248) hx hb dL_lay_234 (by decide) (fun h_215 => ?_) (fun h_215 => ?_)
                        · replace hT := mx_f hT h_215
                          cases hT
                          exact k3 rfl _ _ _ Z (lv_sub hl [1, 2, 3, 4, 5] rfl)
                        · replace hT := mx_t hT h_215
                          refine lv_aload_n hx hb dL_lay_237 rfl (lv_at hl 1 rfl) ?_
                          refine lv_iload hx hb dL_lay_238 (lv_at hl 6 rfl) ?_
                          refine lv_aload hx hb dL_lay_240 (lv_at hl 4 rfl) ?_
                          obtain ⟨q_216, h_q_216, hT⟩ := mx_bind hT
                          refine mx_callS (As := [.ref (mad E (240)), .int (w8), .ref (mad E (y4))]) (rest := []) (st1 := [.int (q_216.1)]) X Z hl.1 (mL_again l E hJ hy0 hy4 _ _ _ h_q_216) wd_22_3 wd_22_4 wd_10_7 wd_22_5 hdL_again ⟨Nat.le_trans (by decide) hR.1, Nat.le_trans (by decide) hR.2⟩ ⟨Nat.zero_le _, Nat.zero_le _⟩ (Nat.le_of_ble_eq_true rfl) rfl rfl dL_lay_242 (fun H locs Z => ?_)
                          refine lv_if_ne (tgt := 250) hx hb dL_lay_245 (by decide) (fun h_217 => ?_) (fun h_217 => ?_)
                          · replace hT := mx_f hT h_217
                            refine lv_aload_n hx hb dL_lay_250 rfl (lv_at hl 1 rfl) ?_
                            refine lv_bipush (v := (44 : Int32)) hx hb dL_lay_251 (by decide) ?_
                            obtain ⟨q_218, h_q_218, hT⟩ := mx_bind hT
                            refine mx_callV (As := [.int ((44 : Int32))]) (rest := []) (st1 := [.int (q_218.1)]) (C := RX5) (T := TX5) (N := 6) (ci := 5) X Z hl.1 (c5_type l E hJ hy0 _ _ _ h_q_218) wd_21_19 wd_21_20 wd_21_21 wd_1_2 wd_21_22 hd5_type ⟨Nat.le_trans (by decide) hR.1, Nat.le_trans (by decide) hR.2⟩ ⟨Nat.zero_le _, Nat.zero_le _⟩ hy0.i (hy0.c _) rfl (Nat.le_of_ble_eq_true rfl) rfl rfl dL_lay_253 (fun H locs Z => ?_)
                            obtain ⟨v_219, e_v_219, hT⟩ := mx_nm hT
                            refine lv_iinc (v := v_219) (lv' := [(7, .int (v_219)), (0, .ref (mad E (240))), (1, .int (y1)), (2, .int (y2)), (4, .ref (mad E (y4))), (6, .int (y6)), (8, .int (w8))]) hx hb dL_lay_256 hl (k := 0) rfl (by rw [← e_v_219]; rfl) (by decide) rfl (fun ls hl => ?_)
                            refine lv_iload hx hb dL_lay_259 (lv_at hl 0 rfl) ?_
                            refine lv_icmp_eq (tgt := 266) hx hb dL_lay_261 (by decide) (fun h_220 => ?_) (fun h_220 => ?_)
                            · replace hT := mx_t hT h_220
                              obtain ⟨v_221, e_v_221, hT⟩ := mx_nm hT
                              refine lv_iinc (v := v_221) (lv' := [(8, .int (v_221)), (7, .int (v_219)), (0, .ref (mad E (240))), (1, .int (y1)), (2, .int (y2)), (4, .ref (mad E (y4))), (6, .int (y6))]) hx hb dL_lay_266 hl (k := 6) rfl (by rw [← e_v_221]; rfl) (by decide) rfl (fun ls hl => ?_)
                              refine lv_goto (tgt := 44) hx hb dL_lay_269 (by decide) ?_
                              exact ih _ _ _ _ _ _ _ hT Z (lv_sub hl [2, 3, 4, 5, 6, 1, 0] rfl) k0 k1 k2 k3 k4
                            · replace hT := mx_f hT h_220
                              cases hT
                              exact k4 rfl _ _ _ Z (lv_sub hl [1, 2, 3, 4, 5] rfl)
                          · replace hT := mx_t hT h_217
                            cases hT
                            exact k3 rfl _ _ _ Z (lv_sub hl [1, 2, 3, 4, 5] rfl)
                  · replace hT := mx_t hT h_205
                    refine lv_goto (tgt := 266) hx hb dL_lay_200 (by decide) ?_
                    obtain ⟨v_222, e_v_222, hT⟩ := mx_nm hT
                    refine lv_iinc (v := v_222) (lv' := [(8, .int (v_222)), (7, .int (v_203)), (0, .ref (mad E (240))), (1, .int (y1)), (2, .int (y2)), (4, .ref (mad E (y4))), (6, .int (y6))]) hx hb dL_lay_266 hl (k := 6) rfl (by rw [← e_v_222]; rfl) (by decide) rfl (fun ls hl => ?_)
                    refine lv_goto (tgt := 44) hx hb dL_lay_269 (by decide) ?_
                    exact ih _ _ _ _ _ _ _ hT Z (lv_sub hl [2, 3, 4, 5, 6, 1, 0] rfl) k0 k1 k2 k3 k4
                · replace hT := mx_f hT h_204
                  cases hT
                  exact k2 rfl _ _ _ Z (lv_sub hl [1, 2, 3, 4, 5] rfl)
      · replace hT := mx_f hT h_14
        cases hT
        exact k1 rfl _ _ _ Z (lv_sub hl [0, 1, 2, 3, 4] rfl)
set_option maxHeartbeats 4000000 in
set_option maxRecDepth 100000 in
theorem mL_lay (l : Launch) (E : mE) (hJ : mJ E) {a3 : Nat} {n3 : Nat} {a4 : Nat} {n4 : Nat} {a5 : Nat} {n5 : Nat} (hd0 : mAl E 240) (ha3 : mAi E a3 1 n3) (ha4 : mAi E a4 1 n4) (ha5 : mAi E a5 1 n5) (x1 : Int32) (x2 : Int32) (G : mM) (q : (Int32 × mM)) (hT : xL_lay x1 x2 a3 n3 a4 n4 a5 n5 G = some q) : mMet l E yL_lay cL_lay 9 (some .boolean) 4 89 [.ref (mad E (240)), .int (x1), .int (x2), .ref (mad E (a3)), .ref (mad E (a4)), .ref (mad E (a5))] G (some (.int q.1)) q.2 := by
  refine Met.ofW (cc := cL_lay) (maxL := 9) (ret := (some .boolean)) (by decide) rfl ?_
  intro p e s m args below meth cd s₁ B hml hv
  obtain ⟨rfl, hP, hK, hS⟩ := hv
  have X := mx_entry (own := RL) B hml hK hJ hS rfl
  have hx := X.1
  have hb := X.2.1
  have hown := X.2.2.2.1
  have hts := X.2.2.2.2.1
  have hr := B.returns
  have hlocks := B.notSynchronized
  have hR : 4 ≤ (headSpec (mWs yL_lay cL_lay 9 (some .boolean)) ({ frames := 4, cells := 0, slots := 0, locals := 89 })).room.frames ∧ 89 ≤ (headSpec (mWs yL_lay cL_lay 9 (some .boolean)) ({ frames := 4, cells := 0, slots := 0, locals := 89 })).room.locals := ⟨Nat.le_refl _, Nat.le_refl _⟩
  have Z : mZ E s.heap s.heap [] G := ⟨hP, va_S.rf⟩
  have hl := lv_entry ([.ref (mad E (240)), .int (x1), .int (x2), .ref (mad E (a3)), .ref (mad E (a4)), .ref (mad E (a5))]) (n := 9) (Nat.le_of_ble_eq_true rfl)
  rw [lg_entry_eq]
  generalize (lg_sl ([.ref (mad E (240)), .int (x1), .int (x2), .ref (mad E (a3)), .ref (mad E (a4)), .ref (mad E (a5))]) ++ List.replicate (9 - (lg_sl ([.ref (mad E (240)), .int (x1), .int (x2), .ref (mad E (a3)), .ref (mad E (a4)), .ref (mad E (a5))])).length) Slot.unset).toArray = ls at hl ⊢
  have hl : lv_has ls 9 [(0, .ref (mad E (240))), (1, .int (x1)), (2, .int (x2)), (3, .ref (mad E (a3))), (4, .ref (mad E (a4))), (5, .ref (mad E (a5)))] := hl
  unfold xL_lay at hT
  refine lv_iconst (v := (3 : Int32)) hx hb dL_lay_0 (by decide) ?_
  refine lv_iload_n hx hb dL_lay_1 rfl (lv_at hl 1 rfl) ?_
  refine lv_bipush (v := (6 : Int32)) hx hb dL_lay_2 (by decide) ?_
  obtain ⟨q_1, h_q_1, hT⟩ := mx_bind hT
  refine mx_callS (As := [.int (x1), .int ((6 : Int32))]) (rest := [.int ((3 : Int32))]) (st1 := [.int (q_1), .int ((3 : Int32))]) X Z hl.1 (mL_at l E hJ _ _ _ _ h_q_1) wd_17_3 wd_17_4 wd_10_7 wd_17_5 hdL_at ⟨Nat.le_trans (by decide) hR.1, Nat.le_trans (by decide) hR.2⟩ ⟨Nat.zero_le _, Nat.zero_le _⟩ (Nat.le_of_ble_eq_true rfl) rfl rfl dL_lay_4 (fun H locs Z => ?_)
  refine lv_iadd hx hb dL_lay_7 ?_
  obtain ⟨v_2, e_v_2, hT⟩ := mx_nm hT
  refine mx_tops (congrArg (fun z => (.int (z) :: [] : List Value)) e_v_2) ?_
  refine lv_istore (lv' := [(6, .int (v_2)), (0, .ref (mad E (240))), (1, .int (x1)), (2, .int (x2)), (3, .ref (mad E (a3))), (4, .ref (mad E (a4))), (5, .ref (mad E (a5)))]) hx hb dL_lay_8 hl (by decide) rfl (fun ls hl => ?_)
  refine lv_iconst (v := (0 : Int32)) hx hb dL_lay_10 (by decide) ?_
  refine lv_istore (lv' := [(7, .int ((0 : Int32))), (6, .int (v_2)), (0, .ref (mad E (240))), (1, .int (x1)), (2, .int (x2)), (3, .ref (mad E (a3))), (4, .ref (mad E (a4))), (5, .ref (mad E (a5)))]) hx hb dL_lay_11 hl (by decide) rfl (fun ls hl => ?_)
  refine lv_aload_n hx hb dL_lay_13 rfl (lv_at hl 2 rfl) ?_
  obtain ⟨q_3, h_q_3, hT⟩ := mx_bind hT
  refine mx_callV (As := []) (rest := []) (st1 := [.int (q_3.1)]) (C := RX5) (T := TX5) (N := 6) (ci := 5) X Z hl.1 (c5_clear l E hJ hd0 _ _ h_q_3) wd_21_3 wd_21_4 wd_21_5 wd_1_2 wd_21_6 hd5_clear ⟨Nat.le_trans (by decide) hR.1, Nat.le_trans (by decide) hR.2⟩ ⟨Nat.zero_le _, Nat.zero_le _⟩ hd0.i (hd0.c _) rfl (Nat.le_of_ble_eq_true rfl) rfl rfl dL_lay_14 (fun H locs Z => ?_)
  refine lv_pop hx hb dL_lay_17 rfl ?_
  refine lv_aload_n hx hb dL_lay_18 rfl (lv_at hl 5 rfl) ?_
  refine lv_bipush (v := (8 : Int32)) hx hb dL_lay_19 (by decide) ?_
  refine lv_dup2_11 hx hb dL_lay_21 rfl rfl ?_
  obtain ⟨h_4, hT⟩ := mx_chk hT
  refine mx_iald X Z ha3 h_4 dL_lay_22 ?_
  refine mx_tops (s2 := [.int (q_3.2 a3 (((8 : Int32)).toNatClampNeg)), .int ((8 : Int32)), .ref (mad E (a3))]) rfl ?_
  refine lv_iconst (v := (2 : Int32)) hx hb dL_lay_23 (by decide) ?_
  refine lv_aload_n hx hb dL_lay_24 rfl (lv_at hl 5 rfl) ?_
  refine lv_aload hx hb dL_lay_25 (lv_at hl 7 rfl) ?_
  obtain ⟨q_5, h_q_5, hT⟩ := mx_bind hT
  refine mx_callS (As := [.int ((2 : Int32)), .ref (mad E (a3)), .ref (mad E (a5))]) (rest := [.int (q_3.2 a3 (((8 : Int32)).toNatClampNeg)), .int ((8 : Int32)), .ref (mad E (a3))]) (st1 := [.int (q_5), .int (q_3.2 a3 (((8 : Int32)).toNatClampNeg)), .int ((8 : Int32)), .ref (mad E (a3))]) X Z hl.1 (mL_sum l E hJ ha3 ha5 _ _ _ h_q_5) wd_15_7 wd_15_8 wd_10_7 wd_15_9 hdL_sum ⟨Nat.le_trans (by decide) hR.1, Nat.le_trans (by decide) hR.2⟩ ⟨Nat.zero_le _, Nat.zero_le _⟩ (Nat.le_of_ble_eq_true rfl) rfl rfl dL_lay_27 (fun H locs Z => ?_)
  refine lv_iadd hx hb dL_lay_30 ?_
  obtain ⟨h_6, hT⟩ := mx_chk hT
  obtain ⟨G_7, e_G_7, hT⟩ := mx_nm hT
  refine mx_iast X Z ha3 h_6 dL_lay_31 (fun H locs Z => ?_)
  replace Z : mZ E s.heap H locs (up2 q_3.2 a3 (((8 : Int32)).toNatClampNeg) ((q_3.2 a3 (((8 : Int32)).toNatClampNeg)) + q_5)) := Z
  rw [e_G_7] at Z
  refine lv_aload_n hx hb dL_lay_32 rfl (lv_at hl 5 rfl) ?_
  refine lv_iconst (v := (0 : Int32)) hx hb dL_lay_33 (by decide) ?_
  refine lv_iload hx hb dL_lay_34 (lv_at hl 1 rfl) ?_
  obtain ⟨h_8, hT⟩ := mx_chk hT
  obtain ⟨G_9, e_G_9, hT⟩ := mx_nm hT
  refine mx_iast X Z ha3 h_8 dL_lay_36 (fun H locs Z => ?_)
  replace Z : mZ E s.heap H locs (up2 G_7 a3 (((0 : Int32)).toNatClampNeg) v_2) := Z
  rw [e_G_9] at Z
  refine lv_aload_n hx hb dL_lay_37 rfl (lv_at hl 5 rfl) ?_
  refine lv_iconst (v := (1 : Int32)) hx hb dL_lay_38 (by decide) ?_
  refine lv_iconst (v := (0 : Int32)) hx hb dL_lay_39 (by decide) ?_
  obtain ⟨h_10, hT⟩ := mx_chk hT
  obtain ⟨G_11, e_G_11, hT⟩ := mx_nm hT
  refine mx_iast X Z ha3 h_10 dL_lay_40 (fun H locs Z => ?_)
  replace Z : mZ E s.heap H locs (up2 G_9 a3 (((1 : Int32)).toNatClampNeg) ((0 : Int32))) := Z
  rw [e_G_11] at Z
  refine lv_iconst (v := (0 : Int32)) hx hb dL_lay_41 (by decide) ?_
  refine lv_istore (lv' := [(8, .int ((0 : Int32))), (7, .int ((0 : Int32))), (6, .int (v_2)), (0, .ref (mad E (240))), (1, .int (x1)), (2, .int (x2)), (3, .ref (mad E (a3))), (4, .ref (mad E (a4))), (5, .ref (mad E (a5)))]) hx hb dL_lay_42 hl (by decide) rfl (fun ls hl => ?_)
  obtain ⟨q_223, h_q_223, hT⟩ := mx_bind hT
  refine kL_lay_44 X hR hJ hd0 ha4 _ _ _ _ _ _ _ _ _ _ _ h_q_223 Z (lv_sub (l' := [(0, .ref (mad E (240))), (1, .int (x1)), (2, .int (x2)), (4, .ref (mad E (a4))), (6, .int (v_2)), (7, .int ((0 : Int32))), (8, .int ((0 : Int32)))]) hl [3, 4, 5, 7, 2, 1, 0] rfl) (fun ht H locs ls Z hl => ?_) (fun ht H locs ls Z hl => ?_) (fun ht H locs ls Z hl => ?_) (fun ht H locs ls Z hl => ?_) (fun ht H locs ls Z hl => ?_)
  · replace hT := mx_t hT ht
    refine lv_aload_n hx hb dL_lay_272 rfl (lv_at hl 0 rfl) ?_
    obtain ⟨q_224, h_q_224, hT⟩ := mx_bind hT
    refine mx_callV (As := []) (rest := []) (st1 := [.int (q_224)]) (C := RX5) (T := TX5) (N := 6) (ci := 5) X Z hl.1 (c5_fault l E hJ hd0 _ _ h_q_224) wd_21_11 wd_21_12 wd_21_13 wd_1_2 wd_21_14 hd5_fault ⟨Nat.le_trans (by decide) hR.1, Nat.le_trans (by decide) hR.2⟩ ⟨Nat.zero_le _, Nat.zero_le _⟩ hd0.i (hd0.c _) rfl (Nat.le_of_ble_eq_true rfl) rfl rfl dL_lay_273 (fun H locs Z => ?_)
    refine lv_iconst (v := (-1 : Int32)) hx hb dL_lay_276 (by decide) ?_
    refine lv_icmp_ne (tgt := 300) hx hb dL_lay_277 (by decide) (fun h_225 => ?_) (fun h_225 => ?_)
    · replace hT := mx_f hT h_225
      refine lv_iconst (v := (0 : Int32)) hx hb dL_lay_300 (by decide) ?_
      cases hT
      exact W.zret (v := (0 : Int32)) hx hb hr rfl (fun t ht hW => mx_end Z t ht _) Z.2.2.2 dL_lay_301
    · replace hT := mx_t hT h_225
      refine lv_aload_n hx hb dL_lay_280 rfl (lv_at hl 0 rfl) ?_
      obtain ⟨q_226, h_q_226, hT⟩ := mx_bind hT
      refine mx_callV (As := []) (rest := []) (st1 := [.int (q_226.1)]) (C := RX5) (T := TX5) (N := 6) (ci := 5) X Z hl.1 (c5_layTrack l E hJ hd0 _ _ h_q_226) wd_22_6 wd_22_7 wd_22_8 wd_1_2 wd_22_9 hd5_layTrack ⟨Nat.le_trans (by decide) hR.1, Nat.le_trans (by decide) hR.2⟩ ⟨Nat.zero_le _, Nat.zero_le _⟩ hd0.i (hd0.c _) rfl (Nat.le_of_ble_eq_true rfl) rfl rfl dL_lay_281 (fun H locs Z => ?_)
      refine lv_iload hx hb dL_lay_284 (lv_at hl 4 rfl) ?_
      refine lv_icmp_ne (tgt := 300) hx hb dL_lay_286 (by decide) (fun h_227 => ?_) (fun h_227 => ?_)
      · replace hT := mx_f hT h_227
        refine lv_iconst (v := (0 : Int32)) hx hb dL_lay_300 (by decide) ?_
        cases hT
        exact W.zret (v := (0 : Int32)) hx hb hr rfl (fun t ht hW => mx_end Z t ht _) Z.2.2.2 dL_lay_301
      · replace hT := mx_t hT h_227
        refine lv_aload_n hx hb dL_lay_289 rfl (lv_at hl 0 rfl) ?_
        obtain ⟨q_228, h_q_228, hT⟩ := mx_bind hT
        refine mx_callV (As := []) (rest := []) (st1 := [.int (q_228.1)]) (C := RX5) (T := TX5) (N := 6) (ci := 5) X Z hl.1 (c5_clear l E hJ hd0 _ _ h_q_228) wd_21_3 wd_21_4 wd_21_5 wd_1_2 wd_21_6 hd5_clear ⟨Nat.le_trans (by decide) hR.1, Nat.le_trans (by decide) hR.2⟩ ⟨Nat.zero_le _, Nat.zero_le _⟩ hd0.i (hd0.c _) rfl (Nat.le_of_ble_eq_true rfl) rfl rfl dL_lay_290 (fun H locs Z => ?_)
        refine lv_if_ne (tgt := 300) hx hb dL_lay_293 (by decide) (fun h_229 => ?_) (fun h_229 => ?_)
        · replace hT := mx_f hT h_229
          refine lv_iconst (v := (0 : Int32)) hx hb dL_lay_300 (by decide) ?_
          cases hT
          exact W.zret (v := (0 : Int32)) hx hb hr rfl (fun t ht hW => mx_end Z t ht _) Z.2.2.2 dL_lay_301
        · replace hT := mx_t hT h_229
          refine lv_iconst (v := (1 : Int32)) hx hb dL_lay_296 (by decide) ?_
          refine lv_goto (tgt := 301) hx hb dL_lay_297 (by decide) ?_
          cases hT
          exact W.zret (v := (1 : Int32)) hx hb hr rfl (fun t ht hW => mx_end Z t ht _) Z.2.2.2 dL_lay_301
  · replace hT := mx_f hT (by rw [ht]; decide)
    replace hT := mx_t hT ht
    refine lv_iconst (v := (0 : Int32)) hx hb dL_lay_60 (by decide) ?_
    cases hT
    exact W.zret (v := (0 : Int32)) hx hb hr rfl (fun t ht hW => mx_end Z t ht _) Z.2.2.2 dL_lay_61
  · replace hT := mx_f hT (by rw [ht]; decide)
    replace hT := mx_f hT (by rw [ht]; decide)
    replace hT := mx_t hT ht
    refine lv_iconst (v := (0 : Int32)) hx hb dL_lay_189 (by decide) ?_
    cases hT
    exact W.zret (v := (0 : Int32)) hx hb hr rfl (fun t ht hW => mx_end Z t ht _) Z.2.2.2 dL_lay_190
  · replace hT := mx_f hT (by rw [ht]; decide)
    replace hT := mx_f hT (by rw [ht]; decide)
    replace hT := mx_f hT (by rw [ht]; decide)
    replace hT := mx_t hT ht
    refine lv_iconst (v := (0 : Int32)) hx hb dL_lay_248 (by decide) ?_
    cases hT
    exact W.zret (v := (0 : Int32)) hx hb hr rfl (fun t ht hW => mx_end Z t ht _) Z.2.2.2 dL_lay_249
  · replace hT := mx_f hT (by rw [ht]; decide)
    replace hT := mx_f hT (by rw [ht]; decide)
    replace hT := mx_f hT (by rw [ht]; decide)
    replace hT := mx_f hT (by rw [ht]; decide)
    refine lv_iconst (v := (0 : Int32)) hx hb dL_lay_264 (by decide) ?_
    cases hT
    exact W.zret (v := (0 : Int32)) hx hb hr rfl (fun t ht hW => mx_end Z t ht _) Z.2.2.2 dL_lay_265
