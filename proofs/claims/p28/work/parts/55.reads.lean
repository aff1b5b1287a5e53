/-! THE READERS: segment, train, why, account, count, setting -/
def B0 (a b : Option Int32) : Prop := ∃ r, a = some r ∧ b = some r
theorem z72 (G : mM) {z : mR} (hi : rInv z) : sr G z 247 72 = nI (rN z) := (congrFun (sr_247 G z) 72).trans hi.zn
theorem z73 (G : mM) {z : mR} (hi : rInv z) : sr G z 247 73 = nI (rM z) := (congrFun (sr_247 G z) 73).trans hi.zm
theorem inj_l {x : Int32} {n : Nat} (w : 0 ≤ x.toInt ∧ x.toInt ≤ n) (hn : n < 1000) : ∃ j, j ≤ n ∧ x = nI j := by
  obtain ⟨j, h1, h2, -⟩ := jA_of (x := x) (n := n + 1) w.1 (by have := w.2; omega)
  exact ⟨j, by omega, h2⟩
theorem ofN (G : mM) (z : mR) {t k : Nat} (h : t < 5) (hk : k < 9) : x6_of (nI t) (nI k) (sr G z) = some (z (36 + 9 * t + k)) := by
  have q := ix (b := 36) (a := 9) (t := t) (k := k) (N := 82) (ixn 36 9 t k) (by omega) (by decide)
  unfold x6_of
  rw [sr_247, mCk_t (show mIn ((36 : Int32) + (9 : Int32) * nI t + nI k) 82 from q.1)]
  exact congrArg (fun i => some (z i)) q.2
theorem eRest (G : mM) {z : mR} (hi : rInv z) {s : Nat} (hs : s < rN z) {A : mM} {o : Nat} (ho : A o 2 = z (3 * s + 2)) : ∃ r, x2_ticksToRise o (z 75) (z 76) A = some r ∧ x6_resting (nI s) (sr G z) = some r := by
  have hn := hi.n
  obtain ⟨⟨a1, a2⟩, ⟨b1, b2⟩, -⟩ := hi.set
  obtain ⟨-, -, c1, c2⟩ := hi.seg hs
  have hd : (z (3 * s + 2) - z 75).toInt = (z (3 * s + 2)).toInt - (z 75).toInt := jA_sub (by omega) (by omega)
  have hne : ¬ z 76 = 0 := fun q => by rw [q] at b1; revert b1; decide
  have e0 := lc (z (3 * s + 2) - z 75) 0 (k := 0) rfl
  have e1 := lc (z 76) 1 (k := 1) rfl
  unfold x2_ticksToRise x6_resting
  rw [sF2 _ _ (by omega), bs, oT0, bs, mNm_e, ho, oT1, bs, bs]
  by_cases c : z (3 * s + 2) ≤ z 75
  · rw [if_pos c, if_neg (fun q => by have := e0.2.1.mp q; rw [jA_le] at c; omega)]
    exact ⟨_, rfl, rfl⟩
  · rw [if_neg c, if_pos (e1.2.2.2.mpr b1), mCk_t hne, if_pos (e0.2.1.mpr (by rw [jA_le] at c; omega))]
    exact ⟨_, rfl, rfl⟩
theorem rd_segment {A : mM} (G : mM) {z : mR} (h : Rs A 0 z) (hi : rInv z) (x1 x2 : Int32) : B0 (x5_segment x1 x2 A) (x6_segment x1 x2 (sr G z)) := by
  have hn := hi.n
  unfold x5_segment x6_segment
  rw [sA (h.n hi) hn.2, bs, eIsSeg (z72 G hi) hn.2, bs, ite10]
  by_cases a : mIn x1 (rN z)
  · obtain ⟨s, hs, rfl⟩ := mIn_nI a
    rw [if_pos a, mOs, if_pos a, wn x2 0 6 (l := 0) (h := 6) rfl rfl, bs, ite10, jA_clamp (by omega)]
    by_cases w : 0 ≤ x2.toInt ∧ x2.toInt ≤ 6
    · obtain ⟨j, hj, rfl⟩ := inj_l (n := 6) w (by decide)
      rw [if_pos w]
      unfold x6_segmentNow
      rcases (show j = 0 ∨ j = 1 ∨ j = 2 ∨ j = 3 ∨ j = 4 ∨ j = 5 ∨ j = 6 by omega) with rfl | rfl | rfl | rfl | rfl | rfl | rfl
      · rw [if_pos (show nI 0 = (0 : Int32) from rfl), if_pos (show nI 0 = (0 : Int32) from rfl), show x6_seg (nI s) (nI 0) (sr G z) = some (z (3 * s)) from sF0 _ _ (by omega), bs, bs, (h.seg hs).1]
        exact ⟨_, rfl, rfl⟩
      · rw [if_neg (show ¬ nI 1 = (0 : Int32) by decide), if_pos (show nI 1 = (1 : Int32) from rfl), if_neg (show ¬ nI 1 = (0 : Int32) by decide), if_pos (show nI 1 = (1 : Int32) from rfl), sPs h hi hs, bs, show x6_seg (nI s) (nI 1) (sr G z) = some (z (3 * s + 1)) from sF1 _ _ (by omega), bs, bs, ite10]
        rcases (hi.seg hs).1 with q | q
        · rw [if_neg (show ¬ rPs z s from fun r => one_ne (r.symm.trans q)), q]; exact ⟨_, rfl, rfl⟩
        · rw [if_pos (show rPs z s from q), q]; exact ⟨_, rfl, rfl⟩
      · rw [if_neg (show ¬ nI 2 = (0 : Int32) by decide), if_neg (show ¬ nI 2 = (1 : Int32) by decide), if_pos (show nI 2 = (2 : Int32) from rfl), if_neg (show ¬ nI 2 = (0 : Int32) by decide), if_neg (show ¬ nI 2 = (1 : Int32) by decide), if_pos (show nI 2 = (2 : Int32) from rfl), show x6_seg (nI s) (nI 2) (sr G z) = some (z (3 * s + 2)) from sF2 _ _ (by omega), bs, bs, (h.seg hs).2.2.1]
        exact ⟨_, rfl, rfl⟩
      · rw [if_neg (show ¬ nI 3 = (0 : Int32) by decide), if_neg (show ¬ nI 3 = (1 : Int32) by decide), if_neg (show ¬ nI 3 = (2 : Int32) by decide), if_pos (show nI 3 = (3 : Int32) from rfl), if_neg (show ¬ nI 3 = (0 : Int32) by decide), if_neg (show ¬ nI 3 = (1 : Int32) by decide), if_neg (show ¬ nI 3 = (2 : Int32) by decide), if_pos (show nI 3 = (3 : Int32) from rfl), sTrIn h hi, eTrIn _ hi, bs, bs]
        exact ⟨_, rfl, rfl⟩
      · rw [if_neg (show ¬ nI 4 = (0 : Int32) by decide), if_neg (show ¬ nI 4 = (1 : Int32) by decide), if_neg (show ¬ nI 4 = (2 : Int32) by decide), if_neg (show ¬ nI 4 = (3 : Int32) by decide), if_pos (show nI 4 = (4 : Int32) from rfl), if_neg (show ¬ nI 4 = (0 : Int32) by decide), if_neg (show ¬ nI 4 = (1 : Int32) by decide), if_neg (show ¬ nI 4 = (2 : Int32) by decide), if_neg (show ¬ nI 4 = (3 : Int32) by decide), if_pos (show nI 4 = (4 : Int32) from rfl), sWIn h hi, eWIn _ hi, bs, bs]
        exact ⟨_, rfl, rfl⟩
      · rw [if_neg (show ¬ nI 5 = (0 : Int32) by decide), if_neg (show ¬ nI 5 = (1 : Int32) by decide), if_neg (show ¬ nI 5 = (2 : Int32) by decide), if_neg (show ¬ nI 5 = (3 : Int32) by decide), if_neg (show ¬ nI 5 = (4 : Int32) by decide), if_pos (show nI 5 = (5 : Int32) from rfl), if_neg (show ¬ nI 5 = (0 : Int32) by decide), if_neg (show ¬ nI 5 = (1 : Int32) by decide), if_neg (show ¬ nI 5 = (2 : Int32) by decide), if_neg (show ¬ nI 5 = (3 : Int32) by decide), if_neg (show ¬ nI 5 = (4 : Int32) by decide), if_pos (show nI 5 = (5 : Int32) from rfl), sTrIn h hi, eTrIn _ hi, eRoom _ hi (by omega), bs, bs, bs, bs, (h.seg hs).2.1]
        exact ⟨_, rfl, rfl⟩
      · obtain ⟨r, r1, r2⟩ := eRest G hi hs (A := A) (o := 0 + 4 + s) (h.seg hs).2.2.1
        rw [if_neg (show ¬ nI 6 = (0 : Int32) by decide), if_neg (show ¬ nI 6 = (1 : Int32) by decide), if_neg (show ¬ nI 6 = (2 : Int32) by decide), if_neg (show ¬ nI 6 = (3 : Int32) by decide), if_neg (show ¬ nI 6 = (4 : Int32) by decide), if_neg (show ¬ nI 6 = (5 : Int32) by decide), if_pos (show nI 6 = (6 : Int32) from rfl), if_neg (show ¬ nI 6 = (0 : Int32) by decide), if_neg (show ¬ nI 6 = (1 : Int32) by decide), if_neg (show ¬ nI 6 = (2 : Int32) by decide), if_neg (show ¬ nI 6 = (3 : Int32) by decide), if_neg (show ¬ nI 6 = (4 : Int32) by decide), if_neg (show ¬ nI 6 = (5 : Int32) by decide), show A (0 + 3) 0 = z 75 from h.set.1, show A (0 + 3) 1 = z 76 from h.set.2.1, r1, r2, bs, bs]
        exact ⟨_, rfl, rfl⟩
    · rw [if_neg w, if_neg (show ¬ x2 = (0 : Int32) from fun q => w (by subst q; decide)), if_neg (show ¬ x2 = (1 : Int32) from fun q => w (by subst q; decide)), if_neg (show ¬ x2 = (2 : Int32) from fun q => w (by subst q; decide)), if_neg (show ¬ x2 = (3 : Int32) from fun q => w (by subst q; decide)), if_neg (show ¬ x2 = (4 : Int32) from fun q => w (by subst q; decide)), if_neg (show ¬ x2 = (5 : Int32) from fun q => w (by subst q; decide)), if_neg (show ¬ x2 = (6 : Int32) from fun q => w (by subst q; decide))]
      exact ⟨_, rfl, rfl⟩
  · rw [if_neg a, mOn, if_neg a]
    exact ⟨_, rfl, rfl⟩
theorem rd_train {A : mM} (G : mM) {z : mR} (h : Rs A 0 z) (hi : rInv z) (x1 x2 : Int32) : B0 (x5_train x1 x2 A) (x6_train x1 x2 (sr G z)) := by
  have hm := hi.m
  unfold x5_train x6_train
  rw [tA (h.m hi) hm, bs, eIsTrain (z73 G hi) hm, bs, ite10]
  by_cases a : mIn x1 (rM z)
  · obtain ⟨t, ht, rfl⟩ := mIn_nI a
    rw [if_pos a, mOs, if_pos a, wn x2 0 9 (l := 0) (h := 9) rfl rfl, bs, ite10, jA_clamp (by omega)]
    by_cases w : 0 ≤ x2.toInt ∧ x2.toInt ≤ 9
    · obtain ⟨j, hj, rfl⟩ := inj_l (n := 9) w (by decide)
      rw [if_pos w]
      unfold x6_trainNow
      rcases (show j = 0 ∨ j = 1 ∨ j = 2 ∨ j = 3 ∨ j = 4 ∨ j = 5 ∨ j = 6 ∨ j = 7 ∨ j = 8 ∨ j = 9 by omega) with rfl | rfl | rfl | rfl | rfl | rfl | rfl | rfl | rfl | rfl
      · rw [if_pos (show nI 0 = (0 : Int32) from rfl), if_neg (show ¬ nI 0 = (9 : Int32) by decide), ofN _ _ (by omega) (by decide), bs, bs, h.tr ht (k := 0) (by decide)]
        exact ⟨_, rfl, rfl⟩
      · rw [if_neg (show ¬ nI 1 = (0 : Int32) by decide), if_pos (show nI 1 = (1 : Int32) from rfl), if_neg (show ¬ nI 1 = (9 : Int32) by decide), ofN _ _ (by omega) (by decide), bs, bs, h.tr ht (k := 1) (by decide)]
        exact ⟨_, rfl, rfl⟩
      · rw [if_neg (show ¬ nI 2 = (0 : Int32) by decide), if_neg (show ¬ nI 2 = (1 : Int32) by decide), if_pos (show nI 2 = (2 : Int32) from rfl), if_neg (show ¬ nI 2 = (9 : Int32) by decide), ofN _ _ (by omega) (by decide), bs, bs, h.tr ht (k := 2) (by decide)]
        exact ⟨_, rfl, rfl⟩
      · rw [if_neg (show ¬ nI 3 = (0 : Int32) by decide), if_neg (show ¬ nI 3 = (1 : Int32) by decide), if_neg (show ¬ nI 3 = (2 : Int32) by decide), if_pos (show nI 3 = (3 : Int32) from rfl), if_neg (show ¬ nI 3 = (9 : Int32) by decide), ofN _ _ (by omega) (by decide), bs, bs, h.tr ht (k := 3) (by decide)]
        exact ⟨_, rfl, rfl⟩
      · rw [if_neg (show ¬ nI 4 = (0 : Int32) by decide), if_neg (show ¬ nI 4 = (1 : Int32) by decide), if_neg (show ¬ nI 4 = (2 : Int32) by decide), if_neg (show ¬ nI 4 = (3 : Int32) by decide), if_pos (show nI 4 = (4 : Int32) from rfl), if_neg (show ¬ nI 4 = (9 : Int32) by decide), ofN _ _ (by omega) (by decide), bs, bs, h.tr ht (k := 4) (by decide)]
        rcases (hi.tr ht).2.2.2.2 with q | q
        · rw [q, if_pos rfl]; exact ⟨_, rfl, rfl⟩
        · rw [q, if_neg one_ne]; exact ⟨_, rfl, rfl⟩
      · rw [if_neg (show ¬ nI 5 = (0 : Int32) by decide), if_neg (show ¬ nI 5 = (1 : Int32) by decide), if_neg (show ¬ nI 5 = (2 : Int32) by decide), if_neg (show ¬ nI 5 = (3 : Int32) by decide), if_neg (show ¬ nI 5 = (4 : Int32) by decide), if_pos (show nI 5 = (5 : Int32) from rfl), if_neg (show ¬ nI 5 = (9 : Int32) by decide), ofN _ _ (by omega) (by decide), bs, bs, h.tr ht (k := 5) (by decide)]
        exact ⟨_, rfl, rfl⟩
      · rw [if_neg (show ¬ nI 6 = (0 : Int32) by decide), if_neg (show ¬ nI 6 = (1 : Int32) by decide), if_neg (show ¬ nI 6 = (2 : Int32) by decide), if_neg (show ¬ nI 6 = (3 : Int32) by decide), if_neg (show ¬ nI 6 = (4 : Int32) by decide), if_neg (show ¬ nI 6 = (5 : Int32) by decide), if_pos (show nI 6 = (6 : Int32) from rfl), if_neg (show ¬ nI 6 = (9 : Int32) by decide), ofN _ _ (by omega) (by decide), bs, bs, h.tr ht (k := 6) (by decide)]
        exact ⟨_, rfl, rfl⟩
      · rw [if_neg (show ¬ nI 7 = (0 : Int32) by decide), if_neg (show ¬ nI 7 = (1 : Int32) by decide), if_neg (show ¬ nI 7 = (2 : Int32) by decide), if_neg (show ¬ nI 7 = (3 : Int32) by decide), if_neg (show ¬ nI 7 = (4 : Int32) by decide), if_neg (show ¬ nI 7 = (5 : Int32) by decide), if_neg (show ¬ nI 7 = (6 : Int32) by decide), if_pos (show nI 7 = (7 : Int32) from rfl), if_neg (show ¬ nI 7 = (9 : Int32) by decide), ofN _ _ (by omega) (by decide), bs, bs, h.tr ht (k := 7) (by decide)]
        exact ⟨_, rfl, rfl⟩
      · rw [if_neg (show ¬ nI 8 = (0 : Int32) by decide), if_neg (show ¬ nI 8 = (1 : Int32) by decide), if_neg (show ¬ nI 8 = (2 : Int32) by decide), if_neg (show ¬ nI 8 = (3 : Int32) by decide), if_neg (show ¬ nI 8 = (4 : Int32) by decide), if_neg (show ¬ nI 8 = (5 : Int32) by decide), if_neg (show ¬ nI 8 = (6 : Int32) by decide), if_neg (show ¬ nI 8 = (7 : Int32) by decide), if_pos (show nI 8 = (8 : Int32) from rfl), if_neg (show ¬ nI 8 = (9 : Int32) by decide), ofN _ _ (by omega) (by decide), bs, bs, h.tr ht (k := 8) (by decide)]
        exact ⟨_, rfl, rfl⟩
      · rw [if_neg (show ¬ nI 9 = (0 : Int32) by decide), if_neg (show ¬ nI 9 = (1 : Int32) by decide), if_neg (show ¬ nI 9 = (2 : Int32) by decide), if_neg (show ¬ nI 9 = (3 : Int32) by decide), if_neg (show ¬ nI 9 = (4 : Int32) by decide), if_neg (show ¬ nI 9 = (5 : Int32) by decide), if_neg (show ¬ nI 9 = (6 : Int32) by decide), if_neg (show ¬ nI 9 = (7 : Int32) by decide), if_neg (show ¬ nI 9 = (8 : Int32) by decide), if_pos (show nI 9 = (9 : Int32) from rfl), if_pos (show nI 9 = (9 : Int32) from rfl), eW _ _ (by omega), bs, bs]
        unfold x4_weight
        rw [bs, h.tr ht (k := 0) (by decide), h.tr ht (k := 2) (by decide)]
        exact ⟨_, rfl, rfl⟩
    · rw [if_neg w, if_neg (show ¬ x2 = (0 : Int32) from fun q => w (by subst q; decide)), if_neg (show ¬ x2 = (1 : Int32) from fun q => w (by subst q; decide)), if_neg (show ¬ x2 = (2 : Int32) from fun q => w (by subst q; decide)), if_neg (show ¬ x2 = (3 : Int32) from fun q => w (by subst q; decide)), if_neg (show ¬ x2 = (4 : Int32) from fun q => w (by subst q; decide)), if_neg (show ¬ x2 = (5 : Int32) from fun q => w (by subst q; decide)), if_neg (show ¬ x2 = (6 : Int32) from fun q => w (by subst q; decide)), if_neg (show ¬ x2 = (7 : Int32) from fun q => w (by subst q; decide)), if_neg (show ¬ x2 = (8 : Int32) from fun q => w (by subst q; decide)), if_neg (show ¬ x2 = (9 : Int32) from fun q => w (by subst q; decide))]
      exact ⟨_, rfl, rfl⟩
  · rw [if_neg a, mOn, if_neg a]
    exact ⟨_, rfl, rfl⟩
theorem rd_why {A : mM} (G : mM) {z : mR} (h : Rs A 0 z) (hi : rInv z) (x1 : Int32) : B0 (x5_why x1 A) (x6_why x1 (sr G z)) := by
  have hm := hi.m
  unfold x5_why x6_why
  rw [tA (h.m hi) hm, bs, eIsTrain (z73 G hi) hm, bs, ite10]
  by_cases a : mIn x1 (rM z)
  · obtain ⟨t, ht, rfl⟩ := mIn_nI a
    rw [if_pos a, mOs, if_pos a, jA_clamp (by omega), cReason h hi ht, eReason _ hi ht, bs]
    exact ⟨_, rfl, rfl⟩
  · rw [if_neg a, mOn, if_neg a]
    exact ⟨_, rfl, rfl⟩
theorem rd_account {A : mM} (G : mM) {z : mR} (h : Rs A 0 z) (hi : rInv z) (x2 : Int32) : B0 (x5_account x2 A) (x6_account x2 (sr G z)) := by
  obtain ⟨-, -, a3, a4, a5, a6, -⟩ := h.1
  unfold x5_account x6_account
  rw [wn x2 0 4 (l := 0) (h := 4) rfl rfl, bs, ite10]
  by_cases w : 0 ≤ x2.toInt ∧ x2.toInt ≤ 4
  · obtain ⟨j, hj, rfl⟩ := inj_l (n := 4) w (by decide)
    rw [if_pos w]
    unfold x6_accountNow
    rcases (show j = 0 ∨ j = 1 ∨ j = 2 ∨ j = 3 ∨ j = 4 by omega) with rfl | rfl | rfl | rfl | rfl
    · rw [if_pos (show nI 0 = (0 : Int32) from rfl), if_pos (show nI 0 = (0 : Int32) from rfl), oT3, bs, bs, a4]
      exact ⟨_, rfl, rfl⟩
    · rw [if_neg (show ¬ nI 1 = (0 : Int32) by decide), if_pos (show nI 1 = (1 : Int32) from rfl), if_neg (show ¬ nI 1 = (0 : Int32) by decide), if_pos (show nI 1 = (1 : Int32) from rfl), oT4, bs, bs, a3]
      exact ⟨_, rfl, rfl⟩
    · rw [if_neg (show ¬ nI 2 = (0 : Int32) by decide), if_neg (show ¬ nI 2 = (1 : Int32) by decide), if_pos (show nI 2 = (2 : Int32) from rfl), if_neg (show ¬ nI 2 = (0 : Int32) by decide), if_neg (show ¬ nI 2 = (1 : Int32) by decide), if_pos (show nI 2 = (2 : Int32) from rfl), sPeat h hi, ePeat _ hi, bs, bs]
      exact ⟨_, rfl, rfl⟩
    · rw [if_neg (show ¬ nI 3 = (0 : Int32) by decide), if_neg (show ¬ nI 3 = (1 : Int32) by decide), if_neg (show ¬ nI 3 = (2 : Int32) by decide), if_pos (show nI 3 = (3 : Int32) from rfl), if_neg (show ¬ nI 3 = (0 : Int32) by decide), if_neg (show ¬ nI 3 = (1 : Int32) by decide), if_neg (show ¬ nI 3 = (2 : Int32) by decide), if_pos (show nI 3 = (3 : Int32) from rfl), oT5, bs, bs, a5]
      exact ⟨_, rfl, rfl⟩
    · rw [if_neg (show ¬ nI 4 = (0 : Int32) by decide), if_neg (show ¬ nI 4 = (1 : Int32) by decide), if_neg (show ¬ nI 4 = (2 : Int32) by decide), if_neg (show ¬ nI 4 = (3 : Int32) by decide), if_pos (show nI 4 = (4 : Int32) from rfl), if_neg (show ¬ nI 4 = (0 : Int32) by decide), if_neg (show ¬ nI 4 = (1 : Int32) by decide), if_neg (show ¬ nI 4 = (2 : Int32) by decide), if_neg (show ¬ nI 4 = (3 : Int32) by decide), oT6, bs, bs, a6]
      exact ⟨_, rfl, rfl⟩
  · rw [if_neg w, if_neg (show ¬ x2 = (0 : Int32) from fun q => w (by subst q; decide)), if_neg (show ¬ x2 = (1 : Int32) from fun q => w (by subst q; decide)), if_neg (show ¬ x2 = (2 : Int32) from fun q => w (by subst q; decide)), if_neg (show ¬ x2 = (3 : Int32) from fun q => w (by subst q; decide)), if_neg (show ¬ x2 = (4 : Int32) from fun q => w (by subst q; decide))]
    exact ⟨_, rfl, rfl⟩
theorem rd_count {k : Nat} {A B : mM} (hR : Rel k A B) (x2 : Int32) : B0 (x5_count x2 A) (x6_count x2 B) := by
  obtain ⟨⟨h, hi, -⟩, -, -, ⟨m, sc, -, m1, m2, -⟩, ⟨mk, -, k1, k2, -⟩, -⟩ := hR
  obtain ⟨a1, a2, -, -, -, -, a7⟩ := h.1
  have d3 := eDeep B hi
  have d4 := eWaits B hi
  have d7 := eSunk B hi
  rw [sr_id] at d3 d4 d7
  unfold x5_count x6_count
  rw [wn x2 0 7 (l := 0) (h := 7) rfl rfl, bs, ite10]
  by_cases w : 0 ≤ x2.toInt ∧ x2.toInt ≤ 7
  · obtain ⟨j, hj, rfl⟩ := inj_l (n := 7) w (by decide)
    rw [if_pos w]
    unfold x6_counted
    rcases (show j = 0 ∨ j = 1 ∨ j = 2 ∨ j = 3 ∨ j = 4 ∨ j = 5 ∨ j = 6 ∨ j = 7 by omega) with rfl | rfl | rfl | rfl | rfl | rfl | rfl | rfl
    · rw [if_pos (show nI 0 = (0 : Int32) from rfl), if_pos (show nI 0 = (0 : Int32) from rfl), bs, a1]
      exact ⟨_, rfl, rfl⟩
    · rw [if_neg (show ¬ nI 1 = (0 : Int32) by decide), if_pos (show nI 1 = (1 : Int32) from rfl), if_neg (show ¬ nI 1 = (0 : Int32) by decide), if_pos (show nI 1 = (1 : Int32) from rfl), bs, a2]
      exact ⟨_, rfl, rfl⟩
    · rw [if_neg (show ¬ nI 2 = (0 : Int32) by decide), if_neg (show ¬ nI 2 = (1 : Int32) by decide), if_pos (show nI 2 = (2 : Int32) from rfl), if_neg (show ¬ nI 2 = (0 : Int32) by decide), if_neg (show ¬ nI 2 = (1 : Int32) by decide), if_pos (show nI 2 = (2 : Int32) from rfl), bs, a7]
      exact ⟨_, rfl, rfl⟩
    · rw [if_neg (show ¬ nI 3 = (0 : Int32) by decide), if_neg (show ¬ nI 3 = (1 : Int32) by decide), if_neg (show ¬ nI 3 = (2 : Int32) by decide), if_pos (show nI 3 = (3 : Int32) from rfl), if_neg (show ¬ nI 3 = (0 : Int32) by decide), if_neg (show ¬ nI 3 = (1 : Int32) by decide), if_neg (show ¬ nI 3 = (2 : Int32) by decide), if_pos (show nI 3 = (3 : Int32) from rfl), d3, sDeep h hi, bs, bs]
      exact ⟨_, rfl, rfl⟩
    · rw [if_neg (show ¬ nI 4 = (0 : Int32) by decide), if_neg (show ¬ nI 4 = (1 : Int32) by decide), if_neg (show ¬ nI 4 = (2 : Int32) by decide), if_neg (show ¬ nI 4 = (3 : Int32) by decide), if_pos (show nI 4 = (4 : Int32) from rfl), if_neg (show ¬ nI 4 = (0 : Int32) by decide), if_neg (show ¬ nI 4 = (1 : Int32) by decide), if_neg (show ¬ nI 4 = (2 : Int32) by decide), if_neg (show ¬ nI 4 = (3 : Int32) by decide), if_pos (show nI 4 = (4 : Int32) from rfl), d4, sWaits h hi, bs, bs]
      exact ⟨_, rfl, rfl⟩
    · rw [if_neg (show ¬ nI 5 = (0 : Int32) by decide), if_neg (show ¬ nI 5 = (1 : Int32) by decide), if_neg (show ¬ nI 5 = (2 : Int32) by decide), if_neg (show ¬ nI 5 = (3 : Int32) by decide), if_neg (show ¬ nI 5 = (4 : Int32) by decide), if_pos (show nI 5 = (5 : Int32) from rfl), if_neg (show ¬ nI 5 = (0 : Int32) by decide), if_neg (show ¬ nI 5 = (1 : Int32) by decide), if_neg (show ¬ nI 5 = (2 : Int32) by decide), if_neg (show ¬ nI 5 = (3 : Int32) by decide), if_neg (show ¬ nI 5 = (4 : Int32) by decide), if_pos (show nI 5 = (5 : Int32) from rfl), bs, x0_size, bs, m1, m2]
      exact ⟨_, rfl, rfl⟩
    · rw [if_neg (show ¬ nI 6 = (0 : Int32) by decide), if_neg (show ¬ nI 6 = (1 : Int32) by decide), if_neg (show ¬ nI 6 = (2 : Int32) by decide), if_neg (show ¬ nI 6 = (3 : Int32) by decide), if_neg (show ¬ nI 6 = (4 : Int32) by decide), if_neg (show ¬ nI 6 = (5 : Int32) by decide), if_pos (show nI 6 = (6 : Int32) from rfl), if_neg (show ¬ nI 6 = (0 : Int32) by decide), if_neg (show ¬ nI 6 = (1 : Int32) by decide), if_neg (show ¬ nI 6 = (2 : Int32) by decide), if_neg (show ¬ nI 6 = (3 : Int32) by decide), if_neg (show ¬ nI 6 = (4 : Int32) by decide), if_neg (show ¬ nI 6 = (5 : Int32) by decide), if_pos (show nI 6 = (6 : Int32) from rfl), bs, k1, k2]
      exact ⟨_, rfl, rfl⟩
    · rw [if_neg (show ¬ nI 7 = (0 : Int32) by decide), if_neg (show ¬ nI 7 = (1 : Int32) by decide), if_neg (show ¬ nI 7 = (2 : Int32) by decide), if_neg (show ¬ nI 7 = (3 : Int32) by decide), if_neg (show ¬ nI 7 = (4 : Int32) by decide), if_neg (show ¬ nI 7 = (5 : Int32) by decide), if_neg (show ¬ nI 7 = (6 : Int32) by decide), if_pos (show nI 7 = (7 : Int32) from rfl), if_neg (show ¬ nI 7 = (0 : Int32) by decide), if_neg (show ¬ nI 7 = (1 : Int32) by decide), if_neg (show ¬ nI 7 = (2 : Int32) by decide), if_neg (show ¬ nI 7 = (3 : Int32) by decide), if_neg (show ¬ nI 7 = (4 : Int32) by decide), if_neg (show ¬ nI 7 = (5 : Int32) by decide), if_neg (show ¬ nI 7 = (6 : Int32) by decide), d7, sSunk h hi, bs, bs]
      exact ⟨_, rfl, rfl⟩
  · rw [if_neg w, if_neg (show ¬ x2 = (0 : Int32) from fun q => w (by subst q; decide)), if_neg (show ¬ x2 = (1 : Int32) from fun q => w (by subst q; decide)), if_neg (show ¬ x2 = (2 : Int32) from fun q => w (by subst q; decide)), if_neg (show ¬ x2 = (3 : Int32) from fun q => w (by subst q; decide)), if_neg (show ¬ x2 = (4 : Int32) from fun q => w (by subst q; decide)), if_neg (show ¬ x2 = (5 : Int32) from fun q => w (by subst q; decide)), if_neg (show ¬ x2 = (6 : Int32) from fun q => w (by subst q; decide)), if_neg (show ¬ x2 = (7 : Int32) from fun q => w (by subst q; decide))]
    exact ⟨_, rfl, rfl⟩
theorem rd_setting {A : mM} (G : mM) {z : mR} (h : Rs A 0 z) (x2 : Int32) : B0 (x5_setting x2 A) (x6_setting x2 (sr G z)) := by
  have e0 := lc x2 0 (k := 0) rfl
  have e3 := lc x2 3 (k := 3) rfl
  unfold x5_setting x6_setting x5_isSetting
  rw [wn x2 0 2 (l := 0) (h := 2) rfl rfl, bs, ite10]
  by_cases w : 0 ≤ x2.toInt ∧ x2.toInt ≤ 2
  · rw [if_neg (show ¬ x2 < 0 from fun q => by have := e0.1.mp q; omega), if_neg (show ¬ (3 : Int32) ≤ x2 from fun q => by have := e3.2.2.2.mp q; omega), bs, if_neg one_ne, if_pos w]
    obtain ⟨j, hj, rfl⟩ := inj_l (n := 2) w (by decide)
    rw [mCk_t (jA_in (by omega) (by decide)), jA_clamp (by omega)]
    rcases (show j = 0 ∨ j = 1 ∨ j = 2 by omega) with rfl | rfl | rfl
    · rw [show x6_other (nI 0) (sr G z) = some (z 75) from oT0 _ _, bs, show A (0 + 3) 0 = z 75 from h.set.1]; exact ⟨_, rfl, rfl⟩
    · rw [show x6_other (nI 1) (sr G z) = some (z 76) from oT1 _ _, bs, show A (0 + 3) 1 = z 76 from h.set.2.1]; exact ⟨_, rfl, rfl⟩
    · rw [show x6_other (nI 2) (sr G z) = some (z 77) from oT2 _ _, bs, show A (0 + 3) 2 = z 77 from h.set.2.2]; exact ⟨_, rfl, rfl⟩
  · rw [if_neg w]
    by_cases q : x2 < 0
    · rw [if_pos q, bs, if_pos rfl]; exact ⟨_, rfl, rfl⟩
    · have q' : ¬ x2.toInt < 0 := fun r => q (e0.1.mpr r)
      rw [if_neg q, if_pos (show (3 : Int32) ≤ x2 from e3.2.2.2.mpr (by omega)), bs, if_pos rfl]; exact ⟨_, rfl, rfl⟩
