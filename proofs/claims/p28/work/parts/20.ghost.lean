/-! THE REFERENCE's pure functions: a ghost, no cell holds its memory -/
def x6_within (x0 : Int32) (x1 : Int32) (x2 : Int32) (G : mM) : Option Int32 :=
  if x0 < x1 then
    some ((0 : Int32))
  else
    if x2 < x0 then
      some ((0 : Int32))
    else
      some ((1 : Int32))
def x6_seg (x1 : Int32) (x2 : Int32) (G : mM) : Option Int32 :=
  mCk (mIn ((((0 : Int32)) + (((3 : Int32)) * x1)) + x2) 82) <|
  some (G 247 (((((0 : Int32)) + (((3 : Int32)) * x1)) + x2).toNatClampNeg))
def x6_of (x1 : Int32) (x2 : Int32) (G : mM) : Option Int32 :=
  mCk (mIn ((((36 : Int32)) + (((9 : Int32)) * x1)) + x2) 82) <|
  some (G 247 (((((36 : Int32)) + (((9 : Int32)) * x1)) + x2).toNatClampNeg))
def x6_put (x1 : Int32) (x2 : Int32) (x3 : Int32) (G : mM) : Option mM :=
  mCk (mIn ((((36 : Int32)) + (((9 : Int32)) * x1)) + x2) 82) <|
  mNm (up2 G 247 (((((36 : Int32)) + (((9 : Int32)) * x1)) + x2).toNatClampNeg) x3) fun G_2 =>
  some (G_2)
def x6_other (x1 : Int32) (G : mM) : Option Int32 :=
  mCk (mIn (((75 : Int32)) + x1) 82) <|
  some (G 247 ((((75 : Int32)) + x1).toNatClampNeg))
def x6_putSegment (x1 : Int32) (x2 : Int32) (x3 : Int32) (G : mM) : Option mM :=
  mCk (mIn ((((0 : Int32)) + (((3 : Int32)) * x1)) + ((0 : Int32))) 82) <|
  mNm (up2 G 247 (((((0 : Int32)) + (((3 : Int32)) * x1)) + ((0 : Int32))).toNatClampNeg) x2) fun G_2 =>
  if x3 = 0 then
    mCk (mIn ((((0 : Int32)) + (((3 : Int32)) * x1)) + ((1 : Int32))) 82) <|
    mNm (up2 G_2 247 (((((0 : Int32)) + (((3 : Int32)) * x1)) + ((1 : Int32))).toNatClampNeg) ((0 : Int32))) fun G_5 =>
    mCk (mIn ((((0 : Int32)) + (((3 : Int32)) * x1)) + ((2 : Int32))) 82) <|
    mNm (up2 G_5 247 (((((0 : Int32)) + (((3 : Int32)) * x1)) + ((2 : Int32))).toNatClampNeg) ((0 : Int32))) fun G_7 =>
    some (G_7)
  else
    mCk (mIn ((((0 : Int32)) + (((3 : Int32)) * x1)) + ((1 : Int32))) 82) <|
    mNm (up2 G_2 247 (((((0 : Int32)) + (((3 : Int32)) * x1)) + ((1 : Int32))).toNatClampNeg) ((1 : Int32))) fun G_9 =>
    mCk (mIn ((((0 : Int32)) + (((3 : Int32)) * x1)) + ((2 : Int32))) 82) <|
    mNm (up2 G_9 247 (((((0 : Int32)) + (((3 : Int32)) * x1)) + ((2 : Int32))).toNatClampNeg) ((0 : Int32))) fun G_11 =>
    some (G_11)
def x6_isTrain (x1 : Int32) (G : mM) : Option Int32 :=
  (x6_within x1 ((0 : Int32)) ((G 247 73) - ((1 : Int32))) G).bind fun q_1 =>
  mCk (mBl q_1) <|
  some (q_1)
def x6_isSegment (x1 : Int32) (G : mM) : Option Int32 :=
  (x6_within x1 ((0 : Int32)) ((G 247 72) - ((1 : Int32))) G).bind fun q_1 =>
  mCk (mBl q_1) <|
  some (q_1)
def x6_copy_L3 (y1 : Nat) (n1 : Nat) (y2 : Int32) (y3 : Nat) (n3 : Nat) (y4 : Int32) : Nat → Int32 → mM → Option (mM)
  | 0, _, _ => none
  | n + 1, w5, G =>
    if ((82 : Int32)) ≤ w5 then
      some (G)
    else
      mCk (mIn (y2 + w5) n1) <|
      mCk (mIn (y4 + w5) n3) <|
      mNm (up2 G y3 ((y4 + w5).toNatClampNeg) (G y1 ((y2 + w5).toNatClampNeg))) fun G_4 =>
      mNm (w5 + (1 : Int32)) fun v_5 =>
      x6_copy_L3 y1 n1 y2 y3 n3 y4 n v_5 G_4
def x6_copy (a1 : Nat) (n1 : Nat) (x2 : Int32) (a3 : Nat) (n3 : Nat) (x4 : Int32) (G : mM) : Option mM :=
  (x6_copy_L3 a1 n1 x2 a3 n3 x4 mFu ((0 : Int32)) G).bind fun q_6 =>
  some (q_6)
def x6_record_L12 : Nat → Int32 → mM → Option (mM)
  | 0, _, _ => none
  | n + 1, w1, G =>
    if ((656 : Int32)) ≤ w1 then
      some (G)
    else
      mCk (mIn w1 656) <|
      mCk (mIn (w1 - ((82 : Int32))) 656) <|
      mNm (up2 G 249 ((w1 - ((82 : Int32))).toNatClampNeg) (G 249 w1.toNatClampNeg)) fun G_7 =>
      mNm (w1 + (1 : Int32)) fun v_8 =>
      x6_record_L12 n v_8 G_7
def x6_record (G : mM) : Option mM :=
  if (G 246 2) = ((8 : Int32)) then
    (x6_record_L12 mFu ((82 : Int32)) G).bind fun q_9 =>
    mNm (up2 q_9 246 2 ((q_9 246 2) - ((1 : Int32)))) fun G_10 =>
    (x6_copy 247 82 ((0 : Int32)) 249 656 (((82 : Int32)) * (G_10 246 2)) G_10).bind fun q_11 =>
    mNm (up2 q_11 246 2 ((q_11 246 2) + ((1 : Int32)))) fun G_12 =>
    some (G_12)
  else
    (x6_copy 247 82 ((0 : Int32)) 249 656 (((82 : Int32)) * (G 246 2)) G).bind fun q_2 =>
    mNm (up2 q_2 246 2 ((q_2 246 2) + ((1 : Int32)))) fun G_3 =>
    some (G_3)
def x6_type (x1 : Int32) (G : mM) : Option (Int32 × mM) :=
  (x6_within x1 ((32 : Int32)) ((126 : Int32)) G).bind fun q_1 =>
  if q_1 = 0 then
    some ((-2 : Int32), G)
  else
    if (G 246 6) = ((40 : Int32)) then
      some ((-4 : Int32), G)
    else
      mCk (mIn (G 246 6) 40) <|
      mNm (up2 G 251 ((G 246 6).toNatClampNeg) x1) fun G_5 =>
      mNm (up2 G_5 246 6 ((G_5 246 6) + ((1 : Int32)))) fun G_6 =>
      some (G_6 246 6, G_6)
def x6_clear (G : mM) : Option (Int32 × mM) :=
  mNm (G 246 6) fun v_1 =>
  mNm (up2 G 246 6 ((0 : Int32))) fun G_2 =>
  some (v_1, G_2)
def x6_takes (x1 : Int32) (G : mM) : Option (Int32 × mM) :=
  if (G 246 9) = 0 then
    (x6_within x1 ((48 : Int32)) ((57 : Int32)) G).bind fun q_27 =>
    if q_27 = 0 then
      mNm (up2 G 246 8 ((G 246 8) + ((0 : Int32)))) fun G_29 =>
      if q_27 = 0 then
        mNm (up2 G_29 246 9 ((0 : Int32))) fun G_31 =>
        mCk (mBl q_27) <|
        some (q_27, G_31)
      else
        mNm (up2 G_29 246 9 ((1 : Int32))) fun G_33 =>
        mCk (mBl q_27) <|
        some (q_27, G_33)
    else
      mNm (up2 G 246 8 ((G 246 8) + ((1 : Int32)))) fun G_35 =>
      if q_27 = 0 then
        mNm (up2 G_35 246 9 ((0 : Int32))) fun G_37 =>
        mCk (mBl q_27) <|
        some (q_27, G_37)
      else
        mNm (up2 G_35 246 9 ((1 : Int32))) fun G_39 =>
        mCk (mBl q_27) <|
        some (q_27, G_39)
  else
    if x1 = ((112 : Int32)) then
      if (G 246 9) = ((1 : Int32)) then
        mNm (up2 G 246 9 ((2 : Int32))) fun G_26 =>
        some ((1 : Int32), G_26)
      else
        if x1 = ((44 : Int32)) then
          if ((12 : Int32)) ≤ (G 246 8) then
            if ((0 : Int32)) = 0 then
              mNm (up2 G 246 9 (G 246 9)) fun G_21 =>
              some ((0 : Int32), G_21)
            else
              mNm (up2 G 246 9 ((0 : Int32))) fun G_22 =>
              some ((0 : Int32), G_22)
          else
            if ((1 : Int32)) = 0 then
              mNm (up2 G 246 9 (G 246 9)) fun G_24 =>
              some ((1 : Int32), G_24)
            else
              mNm (up2 G 246 9 ((0 : Int32))) fun G_25 =>
              some ((1 : Int32), G_25)
        else
          if ((0 : Int32)) = 0 then
            mNm (up2 G 246 9 (G 246 9)) fun G_17 =>
            some ((0 : Int32), G_17)
          else
            mNm (up2 G 246 9 ((0 : Int32))) fun G_18 =>
            some ((0 : Int32), G_18)
    else
      if x1 = ((44 : Int32)) then
        if ((12 : Int32)) ≤ (G 246 8) then
          if ((0 : Int32)) = 0 then
            mNm (up2 G 246 9 (G 246 9)) fun G_9 =>
            some ((0 : Int32), G_9)
          else
            mNm (up2 G 246 9 ((0 : Int32))) fun G_10 =>
            some ((0 : Int32), G_10)
        else
          if ((1 : Int32)) = 0 then
            mNm (up2 G 246 9 (G 246 9)) fun G_12 =>
            some ((1 : Int32), G_12)
          else
            mNm (up2 G 246 9 ((0 : Int32))) fun G_13 =>
            some ((1 : Int32), G_13)
      else
        if ((0 : Int32)) = 0 then
          mNm (up2 G 246 9 (G 246 9)) fun G_5 =>
          some ((0 : Int32), G_5)
        else
          mNm (up2 G 246 9 ((0 : Int32))) fun G_6 =>
          some ((0 : Int32), G_6)
def x6_faultNow_L12 : Nat → Int32 → mM → Option (Int32 × mM)
  | 0, _, _ => none
  | n + 1, w1, G =>
    if (G 246 6) ≤ w1 then
      some (w1, G)
    else
      mCk (mIn w1 40) <|
      (x6_takes (G 251 w1.toNatClampNeg) G).bind fun q_5 =>
      if q_5.1 = 0 then
        some (w1, q_5.2)
      else
        mNm (w1 + (1 : Int32)) fun v_7 =>
        x6_faultNow_L12 n v_7 q_5.2
def x6_faultNow (G : mM) : Option (Int32 × mM) :=
  mNm (up2 G 246 8 ((0 : Int32))) fun G_1 =>
  mNm (up2 G_1 246 9 ((0 : Int32))) fun G_2 =>
  (x6_faultNow_L12 mFu ((0 : Int32)) G_2).bind fun q_8 =>
  if q_8.1 < (q_8.2 246 6) then
    some (q_8.1, q_8.2)
  else
    if (q_8.2 246 9) = 0 then
      some (q_8.1, q_8.2)
    else
      if ((3 : Int32)) ≤ (q_8.2 246 8) then
        some ((-1 : Int32), q_8.2)
      else
        some (q_8.1, q_8.2)
def x6_fault (G : mM) : Option (Int32 × mM) :=
  (x6_faultNow G).bind fun q_1 =>
  some (q_1.1, q_1.2)
def x6_peatInTrains_L4 : Nat → Int32 → Int32 → mM → Option (Int32)
  | 0, _, _, _ => none
  | n + 1, w1, w2, G =>
    if (G 247 73) ≤ w2 then
      some (w1)
    else
      (x6_of w2 ((2 : Int32)) G).bind fun q_2 =>
      mNm (w1 + q_2) fun v_3 =>
      mNm (w2 + (1 : Int32)) fun v_4 =>
      x6_peatInTrains_L4 n v_3 v_4 G
def x6_peatInTrains (G : mM) : Option Int32 :=
  (x6_peatInTrains_L4 mFu ((0 : Int32)) ((0 : Int32)) G).bind fun q_5 =>
  some (q_5)
def x6_layTrack_L47 : Nat → Int32 → mM → Option (mM)
  | 0, _, _ => none
  | n + 1, w1, G =>
    if (G 246 6) ≤ w1 then
      some (G)
    else
      mCk (mIn w1 40) <|
      (x6_within (G 251 w1.toNatClampNeg) ((48 : Int32)) ((57 : Int32)) G).bind fun q_10 =>
      if q_10 = 0 then
        mCk (mIn w1 40) <|
        if (G 251 w1.toNatClampNeg) = ((112 : Int32)) then
          mCk (mIn ((((0 : Int32)) + (((3 : Int32)) * ((G 247 72) - ((1 : Int32))))) + ((1 : Int32))) 82) <|
          mNm (up2 G 247 (((((0 : Int32)) + (((3 : Int32)) * ((G 247 72) - ((1 : Int32))))) + ((1 : Int32))).toNatClampNeg) ((1 : Int32))) fun G_16 =>
          mNm (w1 + (1 : Int32)) fun v_17 =>
          x6_layTrack_L47 n v_17 G_16
        else
          mNm (w1 + (1 : Int32)) fun v_14 =>
          x6_layTrack_L47 n v_14 G
      else
        mCk (mIn w1 40) <|
        if (G 247 72) = 0 then
          (x6_putSegment (G 247 72) ((G 251 w1.toNatClampNeg) - ((48 : Int32))) ((1 : Int32)) G).bind fun q_23 =>
          mNm (up2 q_23 247 72 ((q_23 247 72) + ((1 : Int32)))) fun G_24 =>
          mNm (w1 + (1 : Int32)) fun v_25 =>
          x6_layTrack_L47 n v_25 G_24
        else
          (x6_putSegment (G 247 72) ((G 251 w1.toNatClampNeg) - ((48 : Int32))) ((0 : Int32)) G).bind fun q_20 =>
          mNm (up2 q_20 247 72 ((q_20 247 72) + ((1 : Int32)))) fun G_21 =>
          mNm (w1 + (1 : Int32)) fun v_22 =>
          x6_layTrack_L47 n v_22 G_21
def x6_layTrack (G : mM) : Option (Int32 × mM) :=
  (x6_faultNow G).bind fun q_1 =>
  if q_1.1 = ((-1 : Int32)) then
    (x6_record q_1.2).bind fun q_3 =>
    (x6_peatInTrains q_3).bind fun q_4 =>
    mNm (up2 q_3 247 81 ((q_3 247 81) + q_4)) fun G_5 =>
    mNm (up2 G_5 247 73 ((0 : Int32))) fun G_6 =>
    mNm (up2 G_6 247 72 ((0 : Int32))) fun G_7 =>
    (x6_layTrack_L47 mFu ((0 : Int32)) G_7).bind fun q_26 =>
    mCk (mIn ((((0 : Int32)) + (((3 : Int32)) * ((q_26 247 72) - ((1 : Int32))))) + ((1 : Int32))) 82) <|
    mNm (up2 q_26 247 (((((0 : Int32)) + (((3 : Int32)) * ((q_26 247 72) - ((1 : Int32))))) + ((1 : Int32))).toNatClampNeg) ((1 : Int32))) fun G_28 =>
    mNm (up2 G_28 246 6 ((0 : Int32))) fun G_29 =>
    some (G_29 247 72, G_29)
  else
    some ((-3 : Int32), q_1.2)
def x6_isValue (x0 : Int32) (x1 : Int32) (G : mM) : Option Int32 :=
  if x0 = 0 then
    (x6_within x1 ((10 : Int32)) ((900 : Int32)) G).bind fun q_2 =>
    mCk (mBl q_2) <|
    some (q_2)
  else
    if x0 = 1 then
      (x6_within x1 ((1 : Int32)) ((50 : Int32)) G).bind fun q_5 =>
      mCk (mBl q_5) <|
      some (q_5)
    else
      if x0 = 2 then
        (x6_within x1 ((0 : Int32)) ((2 : Int32)) G).bind fun q_8 =>
        mCk (mBl q_8) <|
        some (q_8)
      else
        some ((0 : Int32))
def x6_set (x1 : Int32) (x2 : Int32) (G : mM) : Option (Int32 × mM) :=
  (x6_isValue x1 x2 G).bind fun q_1 =>
  if q_1 = 0 then
    some ((-2 : Int32), G)
  else
    (x6_record G).bind fun q_3 =>
    (x6_other x1 q_3).bind fun q_4 =>
    mCk (mIn (((75 : Int32)) + x1) 82) <|
    mNm (up2 q_3 247 ((((75 : Int32)) + x1).toNatClampNeg) x2) fun G_6 =>
    some (q_4, G_6)
def x6_dig (x1 : Int32) (G : mM) : Option (Int32 × mM) :=
  (x6_within x1 ((1 : Int32)) ((1000 : Int32)) G).bind fun q_1 =>
  if q_1 = 0 then
    some ((-2 : Int32), G)
  else
    (x6_other ((4 : Int32)) G).bind fun q_3 =>
    if (q_3 + x1) ≤ ((5000 : Int32)) then
      (x6_record G).bind fun q_5 =>
      mNm (up2 q_5 247 78 ((q_5 247 78) + x1)) fun G_6 =>
      mNm (up2 G_6 247 79 ((G_6 247 79) + x1)) fun G_7 =>
      (x6_other ((4 : Int32)) G_7).bind fun q_8 =>
      some (q_8, G_7)
    else
      some ((-4 : Int32), G)
def x6_addTrain_L52 (y1 : Int32) (y2 : Int32) (y3 : Int32) : Nat → Int32 → mM → Option (mM)
  | 0, _, _ => none
  | n + 1, w4, G =>
    if ((9 : Int32)) ≤ w4 then
      some (G)
    else
      (x6_put y3 w4 ((0 : Int32)) G).bind fun q_9 =>
      mNm (w4 + (1 : Int32)) fun v_10 =>
      x6_addTrain_L52 y1 y2 y3 n v_10 q_9
def x6_addTrain (x1 : Int32) (x2 : Int32) (G : mM) : Option (Int32 × mM) :=
  (x6_within x1 ((1 : Int32)) ((6 : Int32)) G).bind fun q_1 =>
  if q_1 = 0 then
    some ((-2 : Int32), G)
  else
    (x6_within x2 ((1 : Int32)) ((20 : Int32)) G).bind fun q_3 =>
    if q_3 = 0 then
      some ((-2 : Int32), G)
    else
      if (G 247 73) = ((4 : Int32)) then
        some ((-4 : Int32), G)
      else
        (x6_record G).bind fun q_6 =>
        mNm (q_6 247 73) fun v_7 =>
        (x6_addTrain_L52 x1 x2 v_7 mFu ((0 : Int32)) q_6).bind fun q_11 =>
        (x6_put v_7 ((0 : Int32)) x1 q_11).bind fun q_12 =>
        (x6_put v_7 ((1 : Int32)) x2 q_12).bind fun q_13 =>
        mNm (up2 q_13 247 73 ((q_13 247 73) + ((1 : Int32)))) fun G_14 =>
        some (v_7, G_14)
def x6_dropTrain_L52 (y2 : Int32) : Nat → Int32 → mM → Option (mM)
  | 0, _, _ => none
  | n + 1, w3, G =>
    if (((36 : Int32)) + (((9 : Int32)) * (G 247 73))) ≤ w3 then
      some (G)
    else
      mCk (mIn (w3 + ((9 : Int32))) 82) <|
      mCk (mIn w3 82) <|
      mNm (up2 G 247 w3.toNatClampNeg (G 247 ((w3 + ((9 : Int32))).toNatClampNeg))) fun G_11 =>
      mNm (w3 + (1 : Int32)) fun v_12 =>
      x6_dropTrain_L52 y2 n v_12 G_11
def x6_dropTrain (x1 : Int32) (G : mM) : Option (Int32 × mM) :=
  (x6_isTrain x1 G).bind fun q_1 =>
  if q_1 = 0 then
    some ((-2 : Int32), G)
  else
    (x6_record G).bind fun q_3 =>
    (x6_of x1 ((2 : Int32)) q_3).bind fun q_4 =>
    mNm (up2 q_3 247 81 ((q_3 247 81) + q_4)) fun G_5 =>
    mNm (up2 G_5 247 73 ((G_5 247 73) - ((1 : Int32)))) fun G_6 =>
    mNm (((36 : Int32)) + (((9 : Int32)) * x1)) fun v_7 =>
    (x6_dropTrain_L52 q_4 mFu v_7 G_6).bind fun q_13 =>
    some (q_4, q_13)
def x6_setLoad (x1 : Int32) (x2 : Int32) (G : mM) : Option (Int32 × mM) :=
  (x6_isTrain x1 G).bind fun q_1 =>
  if q_1 = 0 then
    some ((-2 : Int32), G)
  else
    (x6_within x2 ((1 : Int32)) ((20 : Int32)) G).bind fun q_3 =>
    if q_3 = 0 then
      some ((-2 : Int32), G)
    else
      (x6_record G).bind fun q_5 =>
      (x6_of x1 ((1 : Int32)) q_5).bind fun q_6 =>
      (x6_put x1 ((1 : Int32)) x2 q_5).bind fun q_7 =>
      some (q_6, q_7)
def x6_isEnd (x1 : Int32) (G : mM) : Option Int32 :=
  if x1 = 0 then
    some ((1 : Int32))
  else
    if x1 = ((G 247 72) - ((1 : Int32))) then
      some ((1 : Int32))
    else
      some ((0 : Int32))
def x6_isPassing (x1 : Int32) (G : mM) : Option Int32 :=
  (x6_seg x1 ((1 : Int32)) G).bind fun q_1 =>
  if q_1 = ((1 : Int32)) then
    some ((1 : Int32))
  else
    some ((0 : Int32))
def x6_room (x1 : Int32) (G : mM) : Option Int32 :=
  (x6_isEnd x1 G).bind fun q_1 =>
  if q_1 = 0 then
    (x6_isPassing x1 G).bind fun q_3 =>
    if q_3 = 0 then
      some ((1 : Int32))
    else
      some ((2 : Int32))
  else
    some ((4 : Int32))
def x6_trainsIn_L4 (y1 : Int32) : Nat → Int32 → Int32 → mM → Option (Int32)
  | 0, _, _, _ => none
  | n + 1, w2, w3, G =>
    if (G 247 73) ≤ w3 then
      some (w2)
    else
      (x6_of w3 ((3 : Int32)) G).bind fun q_2 =>
      if q_2 = y1 then
        mNm (w2 + ((1 : Int32))) fun v_6 =>
        mNm (w3 + (1 : Int32)) fun v_7 =>
        x6_trainsIn_L4 y1 n v_6 v_7 G
      else
        mNm (w2 + ((0 : Int32))) fun v_4 =>
        mNm (w3 + (1 : Int32)) fun v_5 =>
        x6_trainsIn_L4 y1 n v_4 v_5 G
def x6_trainsIn (x1 : Int32) (G : mM) : Option Int32 :=
  (x6_trainsIn_L4 x1 mFu ((0 : Int32)) ((0 : Int32)) G).bind fun q_8 =>
  some (q_8)
def x6_weight (x1 : Int32) (G : mM) : Option Int32 :=
  (x6_of x1 ((0 : Int32)) G).bind fun q_1 =>
  (x6_of x1 ((2 : Int32)) G).bind fun q_2 =>
  some ((((4 : Int32)) + (((2 : Int32)) * q_1)) + q_2)
def x6_weightIn_L4 (y1 : Int32) : Nat → Int32 → Int32 → mM → Option (Int32)
  | 0, _, _, _ => none
  | n + 1, w2, w3, G =>
    if (G 247 73) ≤ w3 then
      some (w2)
    else
      (x6_of w3 ((3 : Int32)) G).bind fun q_2 =>
      if q_2 = y1 then
        (x6_weight w3 G).bind fun q_6 =>
        mNm (w2 + q_6) fun v_7 =>
        mNm (w3 + (1 : Int32)) fun v_8 =>
        x6_weightIn_L4 y1 n v_7 v_8 G
      else
        mNm (w2 + ((0 : Int32))) fun v_4 =>
        mNm (w3 + (1 : Int32)) fun v_5 =>
        x6_weightIn_L4 y1 n v_4 v_5 G
def x6_weightIn (x1 : Int32) (G : mM) : Option Int32 :=
  (x6_weightIn_L4 x1 mFu ((0 : Int32)) ((0 : Int32)) G).bind fun q_9 =>
  some (q_9)
def x6_between_L30 (y3 : Int32) (y4 : Int32) (y5 : Int32) : Nat → Int32 → Int32 → mM → Option (Int32)
  | 0, _, _, _ => none
  | n + 1, w6, w7, G =>
    if (G 247 73) ≤ w7 then
      some (w6)
    else
      (x6_of w7 ((3 : Int32)) G).bind fun q_4 =>
      if q_4 ≤ y4 then
        mNm (w6 + ((0 : Int32))) fun v_6 =>
        mNm (w7 + (1 : Int32)) fun v_7 =>
        x6_between_L30 y3 y4 y5 n v_6 v_7 G
      else
        (x6_of w7 ((3 : Int32)) G).bind fun q_8 =>
        if y5 ≤ q_8 then
          mNm (w6 + ((0 : Int32))) fun v_10 =>
          mNm (w7 + (1 : Int32)) fun v_11 =>
          x6_between_L30 y3 y4 y5 n v_10 v_11 G
        else
          (x6_of w7 ((4 : Int32)) G).bind fun q_12 =>
          if q_12 = y3 then
            mNm (w6 + ((1 : Int32))) fun v_16 =>
            mNm (w7 + (1 : Int32)) fun v_17 =>
            x6_between_L30 y3 y4 y5 n v_16 v_17 G
          else
            mNm (w6 + ((0 : Int32))) fun v_14 =>
            mNm (w7 + (1 : Int32)) fun v_15 =>
            x6_between_L30 y3 y4 y5 n v_14 v_15 G
def x6_between (x1 : Int32) (x2 : Int32) (x3 : Int32) (G : mM) : Option Int32 :=
  if x2 ≤ x1 then
    if x2 ≤ x1 then
      (x6_between_L30 x3 x2 x1 mFu ((0 : Int32)) ((0 : Int32)) G).bind fun q_18 =>
      some (q_18)
    else
      (x6_between_L30 x3 x2 x2 mFu ((0 : Int32)) ((0 : Int32)) G).bind fun q_19 =>
      some (q_19)
  else
    if x2 ≤ x1 then
      (x6_between_L30 x3 x1 x1 mFu ((0 : Int32)) ((0 : Int32)) G).bind fun q_21 =>
      some (q_21)
    else
      (x6_between_L30 x3 x1 x2 mFu ((0 : Int32)) ((0 : Int32)) G).bind fun q_22 =>
      some (q_22)
def x6_wanted (x1 : Int32) (G : mM) : Option Int32 :=
  (x6_of x1 ((0 : Int32)) G).bind fun q_1 =>
  (x6_of x1 ((1 : Int32)) G).bind fun q_2 =>
  some (q_1 * q_2)
def x6_reason_L136 (y2 : Int32) (y3 : Int32) (y4 : Int32) : Nat → Int32 → mM → Option (Int32)
  | 0, _, _ => none
  | n + 1, w6, G =>
    (x6_isPassing w6 G).bind fun q_17 =>
    if q_17 = 0 then
      mNm (w6 + y4) fun v_19 =>
      x6_reason_L136 y2 y3 y4 n v_19 G
    else
      some (w6)
def x6_reason (x1 : Int32) (G : mM) : Option Int32 :=
  (x6_of x1 ((3 : Int32)) G).bind fun q_1 =>
  (x6_of x1 ((4 : Int32)) G).bind fun q_2 =>
  if q_2 = ((1 : Int32)) then
    if q_1 = ((G 247 72) - ((1 : Int32))) then
      some ((0 : Int32))
    else
      if q_2 = 0 then
        if q_1 = 0 then
          (x6_other ((4 : Int32)) G).bind fun q_203 =>
          (x6_wanted x1 G).bind fun q_204 =>
          if q_204 ≤ q_203 then
            some ((0 : Int32))
          else
            some ((1 : Int32))
        else
          if q_2 = ((1 : Int32)) then
            mNm (q_1 + ((1 : Int32))) fun v_180 =>
            (x6_seg v_180 ((2 : Int32)) G).bind fun q_181 =>
            (x6_other ((0 : Int32)) G).bind fun q_182 =>
            if q_181 ≤ q_182 then
              (x6_trainsIn v_180 G).bind fun q_184 =>
              (x6_room v_180 G).bind fun q_185 =>
              if q_184 < q_185 then
                (x6_isPassing q_1 G).bind fun q_187 =>
                if q_187 = 0 then
                  some ((0 : Int32))
                else
                  (x6_isPassing v_180 G).bind fun q_189 =>
                  if q_189 = 0 then
                    (x6_reason_L136 q_1 q_2 ((1 : Int32)) mFu v_180 G).bind fun q_191 =>
                    (x6_between q_1 q_191 (((1 : Int32)) - q_2) G).bind fun q_192 =>
                    if q_192 ≤ 0 then
                      (x6_isEnd q_191 G).bind fun q_194 =>
                      if q_194 = 0 then
                        (x6_trainsIn q_191 G).bind fun q_197 =>
                        (x6_between q_1 q_191 q_2 G).bind fun q_198 =>
                        (x6_room q_191 G).bind fun q_199 =>
                        if (q_197 + q_198) < q_199 then
                          if ((0 : Int32)) = 0 then
                            some ((0 : Int32))
                          else
                            some ((5 : Int32))
                        else
                          if ((1 : Int32)) = 0 then
                            some ((0 : Int32))
                          else
                            some ((5 : Int32))
                      else
                        if ((0 : Int32)) = 0 then
                          some ((0 : Int32))
                        else
                          some ((5 : Int32))
                    else
                      some ((4 : Int32))
                  else
                    some ((0 : Int32))
              else
                some ((3 : Int32))
            else
              some ((2 : Int32))
          else
            mNm (q_1 + ((-1 : Int32))) fun v_157 =>
            (x6_seg v_157 ((2 : Int32)) G).bind fun q_158 =>
            (x6_other ((0 : Int32)) G).bind fun q_159 =>
            if q_158 ≤ q_159 then
              (x6_trainsIn v_157 G).bind fun q_161 =>
              (x6_room v_157 G).bind fun q_162 =>
              if q_161 < q_162 then
                (x6_isPassing q_1 G).bind fun q_164 =>
                if q_164 = 0 then
                  some ((0 : Int32))
                else
                  (x6_isPassing v_157 G).bind fun q_166 =>
                  if q_166 = 0 then
                    (x6_reason_L136 q_1 q_2 ((-1 : Int32)) mFu v_157 G).bind fun q_168 =>
                    (x6_between q_1 q_168 (((1 : Int32)) - q_2) G).bind fun q_169 =>
                    if q_169 ≤ 0 then
                      (x6_isEnd q_168 G).bind fun q_171 =>
                      if q_171 = 0 then
                        (x6_trainsIn q_168 G).bind fun q_174 =>
                        (x6_between q_1 q_168 q_2 G).bind fun q_175 =>
                        (x6_room q_168 G).bind fun q_176 =>
                        if (q_174 + q_175) < q_176 then
                          if ((0 : Int32)) = 0 then
                            some ((0 : Int32))
                          else
                            some ((5 : Int32))
                        else
                          if ((1 : Int32)) = 0 then
                            some ((0 : Int32))
                          else
                            some ((5 : Int32))
                      else
                        if ((0 : Int32)) = 0 then
                          some ((0 : Int32))
                        else
                          some ((5 : Int32))
                    else
                      some ((4 : Int32))
                  else
                    some ((0 : Int32))
              else
                some ((3 : Int32))
            else
              some ((2 : Int32))
      else
        if q_2 = ((1 : Int32)) then
          mNm (q_1 + ((1 : Int32))) fun v_132 =>
          (x6_seg v_132 ((2 : Int32)) G).bind fun q_133 =>
          (x6_other ((0 : Int32)) G).bind fun q_134 =>
          if q_133 ≤ q_134 then
            (x6_trainsIn v_132 G).bind fun q_136 =>
            (x6_room v_132 G).bind fun q_137 =>
            if q_136 < q_137 then
              (x6_isPassing q_1 G).bind fun q_139 =>
              if q_139 = 0 then
                some ((0 : Int32))
              else
                (x6_isPassing v_132 G).bind fun q_141 =>
                if q_141 = 0 then
                  (x6_reason_L136 q_1 q_2 ((1 : Int32)) mFu v_132 G).bind fun q_143 =>
                  (x6_between q_1 q_143 (((1 : Int32)) - q_2) G).bind fun q_144 =>
                  if q_144 ≤ 0 then
                    (x6_isEnd q_143 G).bind fun q_146 =>
                    if q_146 = 0 then
                      (x6_trainsIn q_143 G).bind fun q_149 =>
                      (x6_between q_1 q_143 q_2 G).bind fun q_150 =>
                      (x6_room q_143 G).bind fun q_151 =>
                      if (q_149 + q_150) < q_151 then
                        if ((0 : Int32)) = 0 then
                          some ((0 : Int32))
                        else
                          some ((5 : Int32))
                      else
                        if ((1 : Int32)) = 0 then
                          some ((0 : Int32))
                        else
                          some ((5 : Int32))
                    else
                      if ((0 : Int32)) = 0 then
                        some ((0 : Int32))
                      else
                        some ((5 : Int32))
                  else
                    some ((4 : Int32))
                else
                  some ((0 : Int32))
            else
              some ((3 : Int32))
          else
            some ((2 : Int32))
        else
          mNm (q_1 + ((-1 : Int32))) fun v_109 =>
          (x6_seg v_109 ((2 : Int32)) G).bind fun q_110 =>
          (x6_other ((0 : Int32)) G).bind fun q_111 =>
          if q_110 ≤ q_111 then
            (x6_trainsIn v_109 G).bind fun q_113 =>
            (x6_room v_109 G).bind fun q_114 =>
            if q_113 < q_114 then
              (x6_isPassing q_1 G).bind fun q_116 =>
              if q_116 = 0 then
                some ((0 : Int32))
              else
                (x6_isPassing v_109 G).bind fun q_118 =>
                if q_118 = 0 then
                  (x6_reason_L136 q_1 q_2 ((-1 : Int32)) mFu v_109 G).bind fun q_120 =>
                  (x6_between q_1 q_120 (((1 : Int32)) - q_2) G).bind fun q_121 =>
                  if q_121 ≤ 0 then
                    (x6_isEnd q_120 G).bind fun q_123 =>
                    if q_123 = 0 then
                      (x6_trainsIn q_120 G).bind fun q_126 =>
                      (x6_between q_1 q_120 q_2 G).bind fun q_127 =>
                      (x6_room q_120 G).bind fun q_128 =>
                      if (q_126 + q_127) < q_128 then
                        if ((0 : Int32)) = 0 then
                          some ((0 : Int32))
                        else
                          some ((5 : Int32))
                      else
                        if ((1 : Int32)) = 0 then
                          some ((0 : Int32))
                        else
                          some ((5 : Int32))
                    else
                      if ((0 : Int32)) = 0 then
                        some ((0 : Int32))
                      else
                        some ((5 : Int32))
                  else
                    some ((4 : Int32))
                else
                  some ((0 : Int32))
            else
              some ((3 : Int32))
          else
            some ((2 : Int32))
  else
    if q_2 = 0 then
      if q_1 = 0 then
        (x6_other ((4 : Int32)) G).bind fun q_103 =>
        (x6_wanted x1 G).bind fun q_104 =>
        if q_104 ≤ q_103 then
          some ((0 : Int32))
        else
          some ((1 : Int32))
      else
        if q_2 = ((1 : Int32)) then
          mNm (q_1 + ((1 : Int32))) fun v_80 =>
          (x6_seg v_80 ((2 : Int32)) G).bind fun q_81 =>
          (x6_other ((0 : Int32)) G).bind fun q_82 =>
          if q_81 ≤ q_82 then
            (x6_trainsIn v_80 G).bind fun q_84 =>
            (x6_room v_80 G).bind fun q_85 =>
            if q_84 < q_85 then
              (x6_isPassing q_1 G).bind fun q_87 =>
              if q_87 = 0 then
                some ((0 : Int32))
              else
                (x6_isPassing v_80 G).bind fun q_89 =>
                if q_89 = 0 then
                  (x6_reason_L136 q_1 q_2 ((1 : Int32)) mFu v_80 G).bind fun q_91 =>
                  (x6_between q_1 q_91 (((1 : Int32)) - q_2) G).bind fun q_92 =>
                  if q_92 ≤ 0 then
                    (x6_isEnd q_91 G).bind fun q_94 =>
                    if q_94 = 0 then
                      (x6_trainsIn q_91 G).bind fun q_97 =>
                      (x6_between q_1 q_91 q_2 G).bind fun q_98 =>
                      (x6_room q_91 G).bind fun q_99 =>
                      if (q_97 + q_98) < q_99 then
                        if ((0 : Int32)) = 0 then
                          some ((0 : Int32))
                        else
                          some ((5 : Int32))
                      else
                        if ((1 : Int32)) = 0 then
                          some ((0 : Int32))
                        else
                          some ((5 : Int32))
                    else
                      if ((0 : Int32)) = 0 then
                        some ((0 : Int32))
                      else
                        some ((5 : Int32))
                  else
                    some ((4 : Int32))
                else
                  some ((0 : Int32))
            else
              some ((3 : Int32))
          else
            some ((2 : Int32))
        else
          mNm (q_1 + ((-1 : Int32))) fun v_57 =>
          (x6_seg v_57 ((2 : Int32)) G).bind fun q_58 =>
          (x6_other ((0 : Int32)) G).bind fun q_59 =>
          if q_58 ≤ q_59 then
            (x6_trainsIn v_57 G).bind fun q_61 =>
            (x6_room v_57 G).bind fun q_62 =>
            if q_61 < q_62 then
              (x6_isPassing q_1 G).bind fun q_64 =>
              if q_64 = 0 then
                some ((0 : Int32))
              else
                (x6_isPassing v_57 G).bind fun q_66 =>
                if q_66 = 0 then
                  (x6_reason_L136 q_1 q_2 ((-1 : Int32)) mFu v_57 G).bind fun q_68 =>
                  (x6_between q_1 q_68 (((1 : Int32)) - q_2) G).bind fun q_69 =>
                  if q_69 ≤ 0 then
                    (x6_isEnd q_68 G).bind fun q_71 =>
                    if q_71 = 0 then
                      (x6_trainsIn q_68 G).bind fun q_74 =>
                      (x6_between q_1 q_68 q_2 G).bind fun q_75 =>
                      (x6_room q_68 G).bind fun q_76 =>
                      if (q_74 + q_75) < q_76 then
                        if ((0 : Int32)) = 0 then
                          some ((0 : Int32))
                        else
                          some ((5 : Int32))
                      else
                        if ((1 : Int32)) = 0 then
                          some ((0 : Int32))
                        else
                          some ((5 : Int32))
                    else
                      if ((0 : Int32)) = 0 then
                        some ((0 : Int32))
                      else
                        some ((5 : Int32))
                  else
                    some ((4 : Int32))
                else
                  some ((0 : Int32))
            else
              some ((3 : Int32))
          else
            some ((2 : Int32))
    else
      if q_2 = ((1 : Int32)) then
        mNm (q_1 + ((1 : Int32))) fun v_32 =>
        (x6_seg v_32 ((2 : Int32)) G).bind fun q_33 =>
        (x6_other ((0 : Int32)) G).bind fun q_34 =>
        if q_33 ≤ q_34 then
          (x6_trainsIn v_32 G).bind fun q_36 =>
          (x6_room v_32 G).bind fun q_37 =>
          if q_36 < q_37 then
            (x6_isPassing q_1 G).bind fun q_39 =>
            if q_39 = 0 then
              some ((0 : Int32))
            else
              (x6_isPassing v_32 G).bind fun q_41 =>
              if q_41 = 0 then
                (x6_reason_L136 q_1 q_2 ((1 : Int32)) mFu v_32 G).bind fun q_43 =>
                (x6_between q_1 q_43 (((1 : Int32)) - q_2) G).bind fun q_44 =>
                if q_44 ≤ 0 then
                  (x6_isEnd q_43 G).bind fun q_46 =>
                  if q_46 = 0 then
                    (x6_trainsIn q_43 G).bind fun q_49 =>
                    (x6_between q_1 q_43 q_2 G).bind fun q_50 =>
                    (x6_room q_43 G).bind fun q_51 =>
                    if (q_49 + q_50) < q_51 then
                      if ((0 : Int32)) = 0 then
                        some ((0 : Int32))
                      else
                        some ((5 : Int32))
                    else
                      if ((1 : Int32)) = 0 then
                        some ((0 : Int32))
                      else
                        some ((5 : Int32))
                  else
                    if ((0 : Int32)) = 0 then
                      some ((0 : Int32))
                    else
                      some ((5 : Int32))
                else
                  some ((4 : Int32))
              else
                some ((0 : Int32))
          else
            some ((3 : Int32))
        else
          some ((2 : Int32))
      else
        mNm (q_1 + ((-1 : Int32))) fun v_6 =>
        (x6_seg v_6 ((2 : Int32)) G).bind fun q_7 =>
        (x6_other ((0 : Int32)) G).bind fun q_8 =>
        if q_7 ≤ q_8 then
          (x6_trainsIn v_6 G).bind fun q_10 =>
          (x6_room v_6 G).bind fun q_11 =>
          if q_10 < q_11 then
            (x6_isPassing q_1 G).bind fun q_13 =>
            if q_13 = 0 then
              some ((0 : Int32))
            else
              (x6_isPassing v_6 G).bind fun q_15 =>
              if q_15 = 0 then
                (x6_reason_L136 q_1 q_2 ((-1 : Int32)) mFu v_6 G).bind fun q_20 =>
                (x6_between q_1 q_20 (((1 : Int32)) - q_2) G).bind fun q_21 =>
                if q_21 ≤ 0 then
                  (x6_isEnd q_20 G).bind fun q_23 =>
                  if q_23 = 0 then
                    (x6_trainsIn q_20 G).bind fun q_26 =>
                    (x6_between q_1 q_20 q_2 G).bind fun q_27 =>
                    (x6_room q_20 G).bind fun q_28 =>
                    if (q_26 + q_27) < q_28 then
                      if ((0 : Int32)) = 0 then
                        some ((0 : Int32))
                      else
                        some ((5 : Int32))
                    else
                      if ((1 : Int32)) = 0 then
                        some ((0 : Int32))
                      else
                        some ((5 : Int32))
                  else
                    if ((0 : Int32)) = 0 then
                      some ((0 : Int32))
                    else
                      some ((5 : Int32))
                else
                  some ((4 : Int32))
              else
                some ((0 : Int32))
          else
            some ((3 : Int32))
        else
          some ((2 : Int32))
def x6_go (x1 : Int32) (G : mM) : Option mM :=
  (x6_of x1 ((3 : Int32)) G).bind fun q_1 =>
  (x6_of x1 ((4 : Int32)) G).bind fun q_2 =>
  if q_2 = ((1 : Int32)) then
    if ((1 : Int32)) = 0 then
      if ((1 : Int32)) = 0 then
        if q_1 = 0 then
          (x6_wanted x1 G).bind fun q_89 =>
          mNm (up2 G 247 79 ((G 247 79) - q_89)) fun G_90 =>
          (x6_wanted x1 G_90).bind fun q_91 =>
          (x6_put x1 ((2 : Int32)) q_91 G_90).bind fun q_92 =>
          (x6_put x1 ((4 : Int32)) ((1 : Int32)) q_92).bind fun q_93 =>
          (x6_of x1 ((0 : Int32)) q_93).bind fun q_94 =>
          (x6_put x1 ((5 : Int32)) q_94 q_93).bind fun q_95 =>
          some (q_95)
        else
          if ((1 : Int32)) = 0 then
            mNm (q_1 - ((1 : Int32))) fun v_81 =>
            (x6_put x1 ((3 : Int32)) v_81 G).bind fun q_82 =>
            (x6_seg v_81 ((2 : Int32)) q_82).bind fun q_83 =>
            (x6_put x1 ((5 : Int32)) (((1 : Int32)) + (q_83 / ((100 : Int32)))) q_82).bind fun q_84 =>
            some (q_84)
          else
            mNm (q_1 + ((1 : Int32))) fun v_85 =>
            (x6_put x1 ((3 : Int32)) v_85 G).bind fun q_86 =>
            (x6_seg v_85 ((2 : Int32)) q_86).bind fun q_87 =>
            (x6_put x1 ((5 : Int32)) (((1 : Int32)) + (q_87 / ((100 : Int32)))) q_86).bind fun q_88 =>
            some (q_88)
      else
        if ((1 : Int32)) = 0 then
          mNm (q_1 - ((1 : Int32))) fun v_71 =>
          (x6_put x1 ((3 : Int32)) v_71 G).bind fun q_72 =>
          (x6_seg v_71 ((2 : Int32)) q_72).bind fun q_73 =>
          (x6_put x1 ((5 : Int32)) (((1 : Int32)) + (q_73 / ((100 : Int32)))) q_72).bind fun q_74 =>
          some (q_74)
        else
          mNm (q_1 + ((1 : Int32))) fun v_75 =>
          (x6_put x1 ((3 : Int32)) v_75 G).bind fun q_76 =>
          (x6_seg v_75 ((2 : Int32)) q_76).bind fun q_77 =>
          (x6_put x1 ((5 : Int32)) (((1 : Int32)) + (q_77 / ((100 : Int32)))) q_76).bind fun q_78 =>
          some (q_78)
    else
      if q_1 = ((G 247 72) - ((1 : Int32))) then
        (x6_of x1 ((2 : Int32)) G).bind fun q_124 =>
        mNm (up2 G 247 80 ((G 247 80) + q_124)) fun G_125 =>
        (x6_put x1 ((2 : Int32)) ((0 : Int32)) G_125).bind fun q_126 =>
        (x6_put x1 ((4 : Int32)) ((0 : Int32)) q_126).bind fun q_127 =>
        (x6_of x1 ((0 : Int32)) q_127).bind fun q_128 =>
        (x6_put x1 ((5 : Int32)) q_128 q_127).bind fun q_129 =>
        (x6_of x1 ((8 : Int32)) q_129).bind fun q_130 =>
        (x6_put x1 ((8 : Int32)) (q_130 + ((1 : Int32))) q_129).bind fun q_131 =>
        some (q_131)
      else
        if ((1 : Int32)) = 0 then
          if q_1 = 0 then
            (x6_wanted x1 G).bind fun q_117 =>
            mNm (up2 G 247 79 ((G 247 79) - q_117)) fun G_118 =>
            (x6_wanted x1 G_118).bind fun q_119 =>
            (x6_put x1 ((2 : Int32)) q_119 G_118).bind fun q_120 =>
            (x6_put x1 ((4 : Int32)) ((1 : Int32)) q_120).bind fun q_121 =>
            (x6_of x1 ((0 : Int32)) q_121).bind fun q_122 =>
            (x6_put x1 ((5 : Int32)) q_122 q_121).bind fun q_123 =>
            some (q_123)
          else
            if ((1 : Int32)) = 0 then
              mNm (q_1 - ((1 : Int32))) fun v_109 =>
              (x6_put x1 ((3 : Int32)) v_109 G).bind fun q_110 =>
              (x6_seg v_109 ((2 : Int32)) q_110).bind fun q_111 =>
              (x6_put x1 ((5 : Int32)) (((1 : Int32)) + (q_111 / ((100 : Int32)))) q_110).bind fun q_112 =>
              some (q_112)
            else
              mNm (q_1 + ((1 : Int32))) fun v_113 =>
              (x6_put x1 ((3 : Int32)) v_113 G).bind fun q_114 =>
              (x6_seg v_113 ((2 : Int32)) q_114).bind fun q_115 =>
              (x6_put x1 ((5 : Int32)) (((1 : Int32)) + (q_115 / ((100 : Int32)))) q_114).bind fun q_116 =>
              some (q_116)
        else
          if ((1 : Int32)) = 0 then
            mNm (q_1 - ((1 : Int32))) fun v_99 =>
            (x6_put x1 ((3 : Int32)) v_99 G).bind fun q_100 =>
            (x6_seg v_99 ((2 : Int32)) q_100).bind fun q_101 =>
            (x6_put x1 ((5 : Int32)) (((1 : Int32)) + (q_101 / ((100 : Int32)))) q_100).bind fun q_102 =>
            some (q_102)
          else
            mNm (q_1 + ((1 : Int32))) fun v_103 =>
            (x6_put x1 ((3 : Int32)) v_103 G).bind fun q_104 =>
            (x6_seg v_103 ((2 : Int32)) q_104).bind fun q_105 =>
            (x6_put x1 ((5 : Int32)) (((1 : Int32)) + (q_105 / ((100 : Int32)))) q_104).bind fun q_106 =>
            some (q_106)
  else
    if ((0 : Int32)) = 0 then
      if ((0 : Int32)) = 0 then
        if q_1 = 0 then
          (x6_wanted x1 G).bind fun q_25 =>
          mNm (up2 G 247 79 ((G 247 79) - q_25)) fun G_26 =>
          (x6_wanted x1 G_26).bind fun q_27 =>
          (x6_put x1 ((2 : Int32)) q_27 G_26).bind fun q_28 =>
          (x6_put x1 ((4 : Int32)) ((1 : Int32)) q_28).bind fun q_29 =>
          (x6_of x1 ((0 : Int32)) q_29).bind fun q_30 =>
          (x6_put x1 ((5 : Int32)) q_30 q_29).bind fun q_31 =>
          some (q_31)
        else
          if ((0 : Int32)) = 0 then
            mNm (q_1 - ((1 : Int32))) fun v_17 =>
            (x6_put x1 ((3 : Int32)) v_17 G).bind fun q_18 =>
            (x6_seg v_17 ((2 : Int32)) q_18).bind fun q_19 =>
            (x6_put x1 ((5 : Int32)) (((1 : Int32)) + (q_19 / ((100 : Int32)))) q_18).bind fun q_20 =>
            some (q_20)
          else
            mNm (q_1 + ((1 : Int32))) fun v_21 =>
            (x6_put x1 ((3 : Int32)) v_21 G).bind fun q_22 =>
            (x6_seg v_21 ((2 : Int32)) q_22).bind fun q_23 =>
            (x6_put x1 ((5 : Int32)) (((1 : Int32)) + (q_23 / ((100 : Int32)))) q_22).bind fun q_24 =>
            some (q_24)
      else
        if ((0 : Int32)) = 0 then
          mNm (q_1 - ((1 : Int32))) fun v_7 =>
          (x6_put x1 ((3 : Int32)) v_7 G).bind fun q_8 =>
          (x6_seg v_7 ((2 : Int32)) q_8).bind fun q_9 =>
          (x6_put x1 ((5 : Int32)) (((1 : Int32)) + (q_9 / ((100 : Int32)))) q_8).bind fun q_10 =>
          some (q_10)
        else
          mNm (q_1 + ((1 : Int32))) fun v_11 =>
          (x6_put x1 ((3 : Int32)) v_11 G).bind fun q_12 =>
          (x6_seg v_11 ((2 : Int32)) q_12).bind fun q_13 =>
          (x6_put x1 ((5 : Int32)) (((1 : Int32)) + (q_13 / ((100 : Int32)))) q_12).bind fun q_14 =>
          some (q_14)
    else
      if q_1 = ((G 247 72) - ((1 : Int32))) then
        (x6_of x1 ((2 : Int32)) G).bind fun q_60 =>
        mNm (up2 G 247 80 ((G 247 80) + q_60)) fun G_61 =>
        (x6_put x1 ((2 : Int32)) ((0 : Int32)) G_61).bind fun q_62 =>
        (x6_put x1 ((4 : Int32)) ((0 : Int32)) q_62).bind fun q_63 =>
        (x6_of x1 ((0 : Int32)) q_63).bind fun q_64 =>
        (x6_put x1 ((5 : Int32)) q_64 q_63).bind fun q_65 =>
        (x6_of x1 ((8 : Int32)) q_65).bind fun q_66 =>
        (x6_put x1 ((8 : Int32)) (q_66 + ((1 : Int32))) q_65).bind fun q_67 =>
        some (q_67)
      else
        if ((0 : Int32)) = 0 then
          if q_1 = 0 then
            (x6_wanted x1 G).bind fun q_53 =>
            mNm (up2 G 247 79 ((G 247 79) - q_53)) fun G_54 =>
            (x6_wanted x1 G_54).bind fun q_55 =>
            (x6_put x1 ((2 : Int32)) q_55 G_54).bind fun q_56 =>
            (x6_put x1 ((4 : Int32)) ((1 : Int32)) q_56).bind fun q_57 =>
            (x6_of x1 ((0 : Int32)) q_57).bind fun q_58 =>
            (x6_put x1 ((5 : Int32)) q_58 q_57).bind fun q_59 =>
            some (q_59)
          else
            if ((0 : Int32)) = 0 then
              mNm (q_1 - ((1 : Int32))) fun v_45 =>
              (x6_put x1 ((3 : Int32)) v_45 G).bind fun q_46 =>
              (x6_seg v_45 ((2 : Int32)) q_46).bind fun q_47 =>
              (x6_put x1 ((5 : Int32)) (((1 : Int32)) + (q_47 / ((100 : Int32)))) q_46).bind fun q_48 =>
              some (q_48)
            else
              mNm (q_1 + ((1 : Int32))) fun v_49 =>
              (x6_put x1 ((3 : Int32)) v_49 G).bind fun q_50 =>
              (x6_seg v_49 ((2 : Int32)) q_50).bind fun q_51 =>
              (x6_put x1 ((5 : Int32)) (((1 : Int32)) + (q_51 / ((100 : Int32)))) q_50).bind fun q_52 =>
              some (q_52)
        else
          if ((0 : Int32)) = 0 then
            mNm (q_1 - ((1 : Int32))) fun v_35 =>
            (x6_put x1 ((3 : Int32)) v_35 G).bind fun q_36 =>
            (x6_seg v_35 ((2 : Int32)) q_36).bind fun q_37 =>
            (x6_put x1 ((5 : Int32)) (((1 : Int32)) + (q_37 / ((100 : Int32)))) q_36).bind fun q_38 =>
            some (q_38)
          else
            mNm (q_1 + ((1 : Int32))) fun v_39 =>
            (x6_put x1 ((3 : Int32)) v_39 G).bind fun q_40 =>
            (x6_seg v_39 ((2 : Int32)) q_40).bind fun q_41 =>
            (x6_put x1 ((5 : Int32)) (((1 : Int32)) + (q_41 / ((100 : Int32)))) q_40).bind fun q_42 =>
            some (q_42)
def x6_turn (x1 : Int32) (G : mM) : Option mM :=
  (x6_of x1 ((5 : Int32)) G).bind fun q_1 =>
  if q_1 ≤ 0 then
    (x6_reason x1 G).bind fun q_3 =>
    (x6_put x1 ((6 : Int32)) q_3 G).bind fun q_4 =>
    (x6_of x1 ((7 : Int32)) q_4).bind fun q_5 =>
    if q_3 ≤ 0 then
      (x6_put x1 ((7 : Int32)) (q_5 + ((0 : Int32))) q_4).bind fun q_7 =>
      if q_1 ≤ 0 then
        if q_3 = 0 then
          (x6_go x1 q_7).bind fun q_10 =>
          some (q_10)
        else
          some (q_7)
      else
        (x6_put x1 ((5 : Int32)) (q_1 - ((1 : Int32))) q_7).bind fun q_11 =>
        some (q_11)
    else
      (x6_put x1 ((7 : Int32)) (q_5 + ((1 : Int32))) q_4).bind fun q_12 =>
      if q_1 ≤ 0 then
        if q_3 = 0 then
          (x6_go x1 q_12).bind fun q_15 =>
          some (q_15)
        else
          some (q_12)
      else
        (x6_put x1 ((5 : Int32)) (q_1 - ((1 : Int32))) q_12).bind fun q_16 =>
        some (q_16)
  else
    (x6_put x1 ((6 : Int32)) ((0 : Int32)) G).bind fun q_17 =>
    (x6_of x1 ((7 : Int32)) q_17).bind fun q_18 =>
    if ((0 : Int32)) ≤ 0 then
      (x6_put x1 ((7 : Int32)) (q_18 + ((0 : Int32))) q_17).bind fun q_20 =>
      if q_1 ≤ 0 then
        if ((0 : Int32)) = 0 then
          (x6_go x1 q_20).bind fun q_23 =>
          some (q_23)
        else
          some (q_20)
      else
        (x6_put x1 ((5 : Int32)) (q_1 - ((1 : Int32))) q_20).bind fun q_24 =>
        some (q_24)
    else
      (x6_put x1 ((7 : Int32)) (q_18 + ((1 : Int32))) q_17).bind fun q_25 =>
      if q_1 ≤ 0 then
        if ((0 : Int32)) = 0 then
          (x6_go x1 q_25).bind fun q_28 =>
          some (q_28)
        else
          some (q_25)
      else
        (x6_put x1 ((5 : Int32)) (q_1 - ((1 : Int32))) q_25).bind fun q_29 =>
        some (q_29)
def x6_sink_L2 : Nat → Int32 → mM → Option (mM)
  | 0, _, _ => none
  | n + 1, w1, G =>
    if (G 247 72) ≤ w1 then
      some (G)
    else
      (x6_seg w1 ((2 : Int32)) G).bind fun q_2 =>
      (x6_trainsIn w1 G).bind fun q_3 =>
      if q_3 = 0 then
        (x6_other ((1 : Int32)) G).bind fun q_20 =>
        mNm (-q_20) fun v_21 =>
        mNm (q_2 + v_21) fun v_22 =>
        if 0 ≤ v_22 then
          if v_22 ≤ ((999 : Int32)) then
            mCk (mIn ((((0 : Int32)) + (((3 : Int32)) * w1)) + ((2 : Int32))) 82) <|
            mNm (up2 G 247 (((((0 : Int32)) + (((3 : Int32)) * w1)) + ((2 : Int32))).toNatClampNeg) v_22) fun G_26 =>
            mNm (w1 + (1 : Int32)) fun v_27 =>
            x6_sink_L2 n v_27 G_26
          else
            mCk (mIn ((((0 : Int32)) + (((3 : Int32)) * w1)) + ((2 : Int32))) 82) <|
            mNm (up2 G 247 (((((0 : Int32)) + (((3 : Int32)) * w1)) + ((2 : Int32))).toNatClampNeg) ((999 : Int32))) fun G_29 =>
            mNm (w1 + (1 : Int32)) fun v_30 =>
            x6_sink_L2 n v_30 G_29
        else
          mCk (mIn ((((0 : Int32)) + (((3 : Int32)) * w1)) + ((2 : Int32))) 82) <|
          mNm (up2 G 247 (((((0 : Int32)) + (((3 : Int32)) * w1)) + ((2 : Int32))).toNatClampNeg) ((0 : Int32))) fun G_32 =>
          mNm (w1 + (1 : Int32)) fun v_33 =>
          x6_sink_L2 n v_33 G_32
      else
        (x6_weightIn w1 G).bind fun q_5 =>
        (x6_seg w1 ((0 : Int32)) G).bind fun q_6 =>
        mNm ((q_5 * q_6) / ((10 : Int32))) fun v_7 =>
        mNm (q_2 + v_7) fun v_8 =>
        if 0 ≤ v_8 then
          if v_8 ≤ ((999 : Int32)) then
            mCk (mIn ((((0 : Int32)) + (((3 : Int32)) * w1)) + ((2 : Int32))) 82) <|
            mNm (up2 G 247 (((((0 : Int32)) + (((3 : Int32)) * w1)) + ((2 : Int32))).toNatClampNeg) v_8) fun G_12 =>
            mNm (w1 + (1 : Int32)) fun v_13 =>
            x6_sink_L2 n v_13 G_12
          else
            mCk (mIn ((((0 : Int32)) + (((3 : Int32)) * w1)) + ((2 : Int32))) 82) <|
            mNm (up2 G 247 (((((0 : Int32)) + (((3 : Int32)) * w1)) + ((2 : Int32))).toNatClampNeg) ((999 : Int32))) fun G_15 =>
            mNm (w1 + (1 : Int32)) fun v_16 =>
            x6_sink_L2 n v_16 G_15
        else
          mCk (mIn ((((0 : Int32)) + (((3 : Int32)) * w1)) + ((2 : Int32))) 82) <|
          mNm (up2 G 247 (((((0 : Int32)) + (((3 : Int32)) * w1)) + ((2 : Int32))).toNatClampNeg) ((0 : Int32))) fun G_18 =>
          mNm (w1 + (1 : Int32)) fun v_19 =>
          x6_sink_L2 n v_19 G_18
def x6_sink (G : mM) : Option mM :=
  (x6_sink_L2 mFu ((0 : Int32)) G).bind fun q_34 =>
  some (q_34)
def x6_tick_L4 : Nat → Int32 → Int32 → mM → Option (Int32)
  | 0, _, _, _ => none
  | n + 1, w1, w2, G =>
    if (G 247 73) ≤ w2 then
      some (w1)
    else
      (x6_of w2 ((4 : Int32)) G).bind fun q_2 =>
      mNm (w1 ||| (q_2 <<< (w2 &&& 31))) fun v_3 =>
      mNm (w2 + (1 : Int32)) fun v_4 =>
      x6_tick_L4 n v_3 v_4 G
def x6_tick_L48 (y1 : Int32) (y2 : Int32) (y3 : Int32) : Nat → Int32 → mM → Option (mM)
  | 0, _, _ => none
  | n + 1, w4, G =>
    if (G 247 73) ≤ w4 then
      some (G)
    else
      if y2 = ((2 : Int32)) then
        if ((1 : Int32)) = (((1 : Int32)) - y3) then
          (x6_turn w4 G).bind fun q_23 =>
          mNm (w4 + (1 : Int32)) fun v_24 =>
          x6_tick_L48 y1 y2 y3 n v_24 q_23
        else
          mNm (w4 + (1 : Int32)) fun v_22 =>
          x6_tick_L48 y1 y2 y3 n v_22 G
      else
        if y2 = 0 then
          mNm ((y1 >>> (w4 &&& 31)) &&& ((1 : Int32))) fun v_16 =>
          if v_16 = (((1 : Int32)) - y3) then
            (x6_turn w4 G).bind fun q_19 =>
            mNm (w4 + (1 : Int32)) fun v_20 =>
            x6_tick_L48 y1 y2 y3 n v_20 q_19
          else
            mNm (w4 + (1 : Int32)) fun v_18 =>
            x6_tick_L48 y1 y2 y3 n v_18 G
        else
          mNm (((1 : Int32)) - ((y1 >>> (w4 &&& 31)) &&& ((1 : Int32)))) fun v_11 =>
          if v_11 = (((1 : Int32)) - y3) then
            (x6_turn w4 G).bind fun q_14 =>
            mNm (w4 + (1 : Int32)) fun v_15 =>
            x6_tick_L48 y1 y2 y3 n v_15 q_14
          else
            mNm (w4 + (1 : Int32)) fun v_13 =>
            x6_tick_L48 y1 y2 y3 n v_13 G
def x6_tick_L40 (y1 : Int32) (y2 : Int32) : Nat → Int32 → mM → Option (mM)
  | 0, _, _ => none
  | n + 1, w3, G =>
    if ((2 : Int32)) ≤ w3 then
      some (G)
    else
      (x6_tick_L48 y1 y2 w3 mFu ((0 : Int32)) G).bind fun q_25 =>
      mNm (w3 + (1 : Int32)) fun v_26 =>
      x6_tick_L40 y1 y2 n v_26 q_25
def x6_tick (G : mM) : Option mM :=
  (x6_tick_L4 mFu ((0 : Int32)) ((0 : Int32)) G).bind fun q_5 =>
  (x6_other ((2 : Int32)) G).bind fun q_6 =>
  (x6_tick_L40 q_5 q_6 mFu ((0 : Int32)) G).bind fun q_27 =>
  (x6_sink q_27).bind fun q_28 =>
  mNm (up2 q_28 247 74 ((q_28 247 74) + ((1 : Int32)))) fun G_29 =>
  some (G_29)
def x6_run_L26 (y1 : Int32) (y2 : Int32) : Nat → Int32 → mM → Option (mM)
  | 0, _, _ => none
  | n + 1, w3, G =>
    if y1 ≤ w3 then
      some (G)
    else
      (x6_tick G).bind fun q_6 =>
      mNm (w3 + (1 : Int32)) fun v_7 =>
      x6_run_L26 y1 y2 n v_7 q_6
def x6_run (x1 : Int32) (G : mM) : Option (Int32 × mM) :=
  (x6_within x1 ((1 : Int32)) ((200 : Int32)) G).bind fun q_1 =>
  if q_1 = 0 then
    some ((-2 : Int32), G)
  else
    (x6_record G).bind fun q_3 =>
    (x6_other ((5 : Int32)) q_3).bind fun q_4 =>
    (x6_run_L26 x1 q_4 mFu ((0 : Int32)) q_3).bind fun q_8 =>
    (x6_other ((5 : Int32)) q_8).bind fun q_9 =>
    some (q_9 - q_4, q_8)
def x6_undo (G : mM) : Option (Int32 × mM) :=
  if (G 246 2) = 0 then
    some ((-3 : Int32), G)
  else
    mNm (up2 G 246 2 ((G 246 2) - ((1 : Int32)))) fun G_2 =>
    (x6_copy 249 656 (((82 : Int32)) * (G_2 246 2)) 247 82 ((0 : Int32)) G_2).bind fun q_3 =>
    some (q_3 246 2, q_3)
def x6_keep (x1 : Int32) (G : mM) : Option (Int32 × mM) :=
  (x6_within x1 ((0 : Int32)) ((1 : Int32)) G).bind fun q_1 =>
  if q_1 = 0 then
    some ((-2 : Int32), G)
  else
    (x6_copy 247 82 ((0 : Int32)) 250 164 (((82 : Int32)) * x1) G).bind fun q_3 =>
    mNm (up2 q_3 246 4 ((q_3 246 4) ||| (((1 : Int32)) <<< (x1 &&& 31)))) fun G_4 =>
    some (G_4 247 74, G_4)
def x6_back (x1 : Int32) (G : mM) : Option (Int32 × mM) :=
  (x6_within x1 ((0 : Int32)) ((1 : Int32)) G).bind fun q_1 =>
  if q_1 = 0 then
    some ((-2 : Int32), G)
  else
    if (((G 246 4) >>> (x1 &&& 31)) &&& ((1 : Int32))) = 0 then
      some ((-3 : Int32), G)
    else
      (x6_record G).bind fun q_4 =>
      (x6_copy 250 164 (((82 : Int32)) * x1) 247 82 ((0 : Int32)) q_4).bind fun q_5 =>
      some (q_5 247 74, q_5)
def x6_resting (x1 : Int32) (G : mM) : Option Int32 :=
  (x6_seg x1 ((2 : Int32)) G).bind fun q_1 =>
  (x6_other ((0 : Int32)) G).bind fun q_2 =>
  mNm (q_1 - q_2) fun v_3 =>
  if 0 < v_3 then
    (x6_other ((1 : Int32)) G).bind fun q_5 =>
    (x6_other ((1 : Int32)) G).bind fun q_6 =>
    mCk (¬ q_6 = 0) <|
    some (((v_3 + q_5) - ((1 : Int32))) / q_6)
  else
    some ((0 : Int32))
def x6_segmentNow (x1 : Int32) (x2 : Int32) (G : mM) : Option Int32 :=
  if x2 = 0 then
    (x6_seg x1 x2 G).bind fun q_2 =>
    some (q_2)
  else
    if x2 = 1 then
      (x6_seg x1 x2 G).bind fun q_4 =>
      some (q_4)
    else
      if x2 = 2 then
        (x6_seg x1 x2 G).bind fun q_6 =>
        some (q_6)
      else
        if x2 = 3 then
          (x6_trainsIn x1 G).bind fun q_8 =>
          some (q_8)
        else
          if x2 = 4 then
            (x6_weightIn x1 G).bind fun q_10 =>
            some (q_10)
          else
            if x2 = 5 then
              (x6_room x1 G).bind fun q_12 =>
              (x6_trainsIn x1 G).bind fun q_13 =>
              some (q_12 - q_13)
            else
              (x6_resting x1 G).bind fun q_14 =>
              some (q_14)
def x6_segment (x1 : Int32) (x2 : Int32) (G : mM) : Option Int32 :=
  (x6_isSegment x1 G).bind fun q_1 =>
  if q_1 = 0 then
    some ((-2 : Int32))
  else
    (x6_within x2 ((0 : Int32)) ((6 : Int32)) G).bind fun q_3 =>
    if q_3 = 0 then
      some ((-2 : Int32))
    else
      (x6_segmentNow x1 x2 G).bind fun q_5 =>
      some (q_5)
def x6_trainNow (x1 : Int32) (x2 : Int32) (G : mM) : Option Int32 :=
  if x2 = ((9 : Int32)) then
    (x6_weight x1 G).bind fun q_3 =>
    some (q_3)
  else
    (x6_of x1 x2 G).bind fun q_2 =>
    some (q_2)
def x6_train (x1 : Int32) (x2 : Int32) (G : mM) : Option Int32 :=
  (x6_isTrain x1 G).bind fun q_1 =>
  if q_1 = 0 then
    some ((-2 : Int32))
  else
    (x6_within x2 ((0 : Int32)) ((9 : Int32)) G).bind fun q_3 =>
    if q_3 = 0 then
      some ((-2 : Int32))
    else
      (x6_trainNow x1 x2 G).bind fun q_5 =>
      some (q_5)
def x6_why (x1 : Int32) (G : mM) : Option Int32 :=
  (x6_isTrain x1 G).bind fun q_1 =>
  if q_1 = 0 then
    some ((-2 : Int32))
  else
    (x6_reason x1 G).bind fun q_3 =>
    some (q_3)
def x6_accountNow (x1 : Int32) (G : mM) : Option Int32 :=
  if x1 = 0 then
    (x6_other ((3 : Int32)) G).bind fun q_2 =>
    some (q_2)
  else
    if x1 = 1 then
      (x6_other ((4 : Int32)) G).bind fun q_4 =>
      some (q_4)
    else
      if x1 = 2 then
        (x6_peatInTrains G).bind fun q_6 =>
        some (q_6)
      else
        if x1 = 3 then
          (x6_other ((5 : Int32)) G).bind fun q_8 =>
          some (q_8)
        else
          (x6_other ((6 : Int32)) G).bind fun q_9 =>
          some (q_9)
def x6_account (x1 : Int32) (G : mM) : Option Int32 :=
  (x6_within x1 ((0 : Int32)) ((4 : Int32)) G).bind fun q_1 =>
  if q_1 = 0 then
    some ((-2 : Int32))
  else
    (x6_accountNow x1 G).bind fun q_3 =>
    some (q_3)
def x6_deepest_L4 : Nat → Int32 → Int32 → mM → Option (Int32)
  | 0, _, _, _ => none
  | n + 1, w1, w2, G =>
    if (G 247 72) ≤ w2 then
      some (w1)
    else
      (x6_seg w2 ((2 : Int32)) G).bind fun q_2 =>
      if q_2 ≤ w1 then
        mNm (w2 + (1 : Int32)) fun v_4 =>
        x6_deepest_L4 n w1 v_4 G
      else
        (x6_seg w2 ((2 : Int32)) G).bind fun q_5 =>
        mNm (w2 + (1 : Int32)) fun v_6 =>
        x6_deepest_L4 n q_5 v_6 G
def x6_deepest (G : mM) : Option Int32 :=
  (x6_deepest_L4 mFu ((0 : Int32)) ((0 : Int32)) G).bind fun q_7 =>
  some (q_7)
def x6_allWaits_L4 : Nat → Int32 → Int32 → mM → Option (Int32)
  | 0, _, _, _ => none
  | n + 1, w1, w2, G =>
    if (G 247 73) ≤ w2 then
      some (w1)
    else
      (x6_of w2 ((7 : Int32)) G).bind fun q_2 =>
      mNm (w1 + q_2) fun v_3 =>
      mNm (w2 + (1 : Int32)) fun v_4 =>
      x6_allWaits_L4 n v_3 v_4 G
def x6_allWaits (G : mM) : Option Int32 :=
  (x6_allWaits_L4 mFu ((0 : Int32)) ((0 : Int32)) G).bind fun q_5 =>
  some (q_5)
def x6_tooDeep_L4 : Nat → Int32 → Int32 → mM → Option (Int32)
  | 0, _, _, _ => none
  | n + 1, w1, w2, G =>
    if (G 247 72) ≤ w2 then
      some (w1)
    else
      (x6_seg w2 ((2 : Int32)) G).bind fun q_2 =>
      (x6_other ((0 : Int32)) G).bind fun q_3 =>
      if q_2 ≤ q_3 then
        mNm (w1 ||| ((0 : Int32))) fun v_5 =>
        mNm (w2 + (1 : Int32)) fun v_6 =>
        x6_tooDeep_L4 n v_5 v_6 G
      else
        mNm (w1 ||| (((1 : Int32)) <<< (w2 &&& 31))) fun v_7 =>
        mNm (w2 + (1 : Int32)) fun v_8 =>
        x6_tooDeep_L4 n v_7 v_8 G
def x6_tooDeep (G : mM) : Option Int32 :=
  (x6_tooDeep_L4 mFu ((0 : Int32)) ((0 : Int32)) G).bind fun q_9 =>
  some (q_9)
def x6_counted (x1 : Int32) (G : mM) : Option Int32 :=
  if x1 = 0 then
    some (G 247 72)
  else
    if x1 = 1 then
      some (G 247 73)
    else
      if x1 = 2 then
        some (G 247 74)
      else
        if x1 = 3 then
          (x6_deepest G).bind fun q_5 =>
          some (q_5)
        else
          if x1 = 4 then
            (x6_allWaits G).bind fun q_7 =>
            some (q_7)
          else
            if x1 = 5 then
              some (G 246 2)
            else
              if x1 = 6 then
                some (G 246 4)
              else
                (x6_tooDeep G).bind fun q_10 =>
                some (q_10)
def x6_count (x1 : Int32) (G : mM) : Option Int32 :=
  (x6_within x1 ((0 : Int32)) ((7 : Int32)) G).bind fun q_1 =>
  if q_1 = 0 then
    some ((-2 : Int32))
  else
    (x6_counted x1 G).bind fun q_3 =>
    some (q_3)
def x6_setting (x1 : Int32) (G : mM) : Option Int32 :=
  (x6_within x1 ((0 : Int32)) ((2 : Int32)) G).bind fun q_1 =>
  if q_1 = 0 then
    some ((-2 : Int32))
  else
    (x6_other x1 G).bind fun q_3 =>
    some (q_3)
def x6_ahead_L32 (y1 : Int32) (y2 : Int32) (y3 : Int32) (y4 : Int32) : Nat → Int32 → Int32 → mM → Option (Int32 × mM)
  | 0, _, _, _ => none
  | n + 1, w5, w6, G =>
    if y1 ≤ w6 then
      some (w5, G)
    else
      (x6_tick G).bind fun q_5 =>
      (x6_deepest q_5).bind fun q_6 =>
      if q_6 ≤ w5 then
        mNm (w6 + (1 : Int32)) fun v_8 =>
        x6_ahead_L32 y1 y2 y3 y4 n w5 v_8 q_5
      else
        (x6_deepest q_5).bind fun q_9 =>
        mNm (w6 + (1 : Int32)) fun v_10 =>
        x6_ahead_L32 y1 y2 y3 y4 n q_9 v_10 q_5
def x6_ahead (x1 : Int32) (x2 : Int32) (G : mM) : Option (Int32 × mM) :=
  (x6_copy 247 82 ((0 : Int32)) 248 82 ((0 : Int32)) G).bind fun q_1 =>
  (x6_other ((5 : Int32)) q_1).bind fun q_2 =>
  (x6_allWaits q_1).bind fun q_3 =>
  (x6_ahead_L32 x1 x2 q_2 q_3 mFu ((0 : Int32)) ((0 : Int32)) q_1).bind fun q_11 =>
  if x2 = 0 then
    (x6_other ((5 : Int32)) q_11.2).bind fun q_21 =>
    mNm (q_21 - q_2) fun v_22 =>
    (x6_copy 248 82 ((0 : Int32)) 247 82 ((0 : Int32)) q_11.2).bind fun q_23 =>
    some (v_22, q_23)
  else
    if x2 = ((1 : Int32)) then
      (x6_deepest q_11.2).bind fun q_19 =>
      (x6_copy 248 82 ((0 : Int32)) 247 82 ((0 : Int32)) q_11.2).bind fun q_20 =>
      some (q_19, q_20)
    else
      if x2 = ((2 : Int32)) then
        (x6_allWaits q_11.2).bind fun q_16 =>
        mNm (q_16 - q_3) fun v_17 =>
        (x6_copy 248 82 ((0 : Int32)) 247 82 ((0 : Int32)) q_11.2).bind fun q_18 =>
        some (v_17, q_18)
      else
        (x6_copy 248 82 ((0 : Int32)) 247 82 ((0 : Int32)) q_11.2).bind fun q_15 =>
        some (q_11.1, q_15)
def x6_ifRun (x1 : Int32) (x2 : Int32) (G : mM) : Option (Int32 × mM) :=
  (x6_within x1 ((1 : Int32)) ((200 : Int32)) G).bind fun q_1 =>
  if q_1 = 0 then
    some ((-2 : Int32), G)
  else
    (x6_within x2 ((0 : Int32)) ((3 : Int32)) G).bind fun q_3 =>
    if q_3 = 0 then
      some ((-2 : Int32), G)
    else
      (x6_ahead x1 x2 G).bind fun q_5 =>
      some (q_5.1, q_5.2)
def x6_ticksUntil_L24 (y2 : Int32) : Nat → Int32 → mM → Option (Int32 × mM)
  | 0, _, _ => none
  | n + 1, w3, G =>
    if ((500 : Int32)) ≤ w3 then
      some (w3, G)
    else
      (x6_other ((5 : Int32)) G).bind fun q_5 =>
      if y2 ≤ q_5 then
        some (w3, G)
      else
        (x6_tick G).bind fun q_7 =>
        mNm (w3 + (1 : Int32)) fun v_8 =>
        x6_ticksUntil_L24 y2 n v_8 q_7
def x6_ticksUntil (x1 : Int32) (G : mM) : Option (Int32 × mM) :=
  (x6_copy 247 82 ((0 : Int32)) 248 82 ((0 : Int32)) G).bind fun q_1 =>
  (x6_other ((5 : Int32)) q_1).bind fun q_2 =>
  mNm (q_2 + x1) fun v_3 =>
  (x6_ticksUntil_L24 v_3 mFu ((0 : Int32)) q_1).bind fun q_9 =>
  (x6_other ((5 : Int32)) q_9.2).bind fun q_10 =>
  if v_3 ≤ q_10 then
    (x6_copy 248 82 ((0 : Int32)) 247 82 ((0 : Int32)) q_9.2).bind fun q_12 =>
    some (q_9.1, q_12)
  else
    (x6_copy 248 82 ((0 : Int32)) 247 82 ((0 : Int32)) q_9.2).bind fun q_13 =>
    some ((-1 : Int32), q_13)
def x6_ticksFor (x1 : Int32) (G : mM) : Option (Int32 × mM) :=
  (x6_within x1 ((1 : Int32)) ((1000 : Int32)) G).bind fun q_1 =>
  if q_1 = 0 then
    some ((-2 : Int32), G)
  else
    (x6_ticksUntil x1 G).bind fun q_3 =>
    some (q_3.1, q_3.2)
def x6_best_L17 (y1 : Int32) (y3 : Int32) (y4 : Int32) (y5 : Int32) : Nat → Int32 → Int32 → Int32 → mM → Option (Int32 × mM)
  | 0, _, _, _, _ => none
  | n + 1, w6, w7, w8, G =>
    if y3 < w8 then
      some (w6, G)
    else
      mCk (mIn y1 82) <|
      mNm (up2 G 247 y1.toNatClampNeg w8) fun G_5 =>
      (x6_ahead y4 ((0 : Int32)) G_5).bind fun q_6 =>
      if q_6.1 ≤ w7 then
        if q_6.1 ≤ w7 then
          mNm (w8 + (1 : Int32)) fun v_9 =>
          x6_best_L17 y1 y3 y4 y5 n w6 w7 v_9 q_6.2
        else
          mNm (w8 + (1 : Int32)) fun v_10 =>
          x6_best_L17 y1 y3 y4 y5 n w6 q_6.1 v_10 q_6.2
      else
        if q_6.1 ≤ w7 then
          mNm (w8 + (1 : Int32)) fun v_12 =>
          x6_best_L17 y1 y3 y4 y5 n w8 w7 v_12 q_6.2
        else
          mNm (w8 + (1 : Int32)) fun v_13 =>
          x6_best_L17 y1 y3 y4 y5 n w8 q_6.1 v_13 q_6.2
def x6_best (x1 : Int32) (x2 : Int32) (x3 : Int32) (x4 : Int32) (G : mM) : Option (Int32 × mM) :=
  mCk (mIn x1 82) <|
  mNm (G 247 x1.toNatClampNeg) fun v_2 =>
  (x6_best_L17 x1 x3 x4 v_2 mFu x2 ((-1 : Int32)) x2 G).bind fun q_14 =>
  mCk (mIn x1 82) <|
  mNm (up2 q_14.2 247 x1.toNatClampNeg v_2) fun G_16 =>
  some (q_14.1, G_16)
def x6_bestRule (x1 : Int32) (G : mM) : Option (Int32 × mM) :=
  (x6_within x1 ((1 : Int32)) ((200 : Int32)) G).bind fun q_1 =>
  if q_1 = 0 then
    some ((-2 : Int32), G)
  else
    (x6_best ((77 : Int32)) ((0 : Int32)) ((2 : Int32)) x1 G).bind fun q_3 =>
    some (q_3.1, q_3.2)
def x6_bestLoad (x1 : Int32) (x2 : Int32) (G : mM) : Option (Int32 × mM) :=
  (x6_isTrain x1 G).bind fun q_1 =>
  if q_1 = 0 then
    some ((-2 : Int32), G)
  else
    (x6_within x2 ((1 : Int32)) ((200 : Int32)) G).bind fun q_3 =>
    if q_3 = 0 then
      some ((-2 : Int32), G)
    else
      (x6_best ((((36 : Int32)) + (((9 : Int32)) * x1)) + ((1 : Int32))) ((1 : Int32)) ((20 : Int32)) x2 G).bind fun q_5 =>
      some (q_5.1, q_5.2)
def x6_meanSinking_L4 : Nat → Int32 → Int32 → mM → Option (Int32)
  | 0, _, _, _ => none
  | n + 1, w1, w2, G =>
    if (G 247 72) ≤ w2 then
      some (w1)
    else
      (x6_seg w2 ((2 : Int32)) G).bind fun q_2 =>
      mNm (w1 + q_2) fun v_3 =>
      mNm (w2 + (1 : Int32)) fun v_4 =>
      x6_meanSinking_L4 n v_3 v_4 G
