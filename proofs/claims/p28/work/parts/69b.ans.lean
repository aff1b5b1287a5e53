/-! WHAT THE CLASS ANSWERS, in the row's words -/
section ANS
variable {A : mM} {z : mR}
/-- ticks until a segment has risen -/
def rRs (z : mR) (s : Nat) : Nat := if (z (3 * s + 2)).toInt ≤ (z 75).toInt then 0 else ((z (3 * s + 2)).toInt.toNat - (z 75).toInt.toNat + (z 76).toInt.toNat - 1) / (z 76).toInt.toNat
theorem aRise (h : Rs A 0 z) (hi : rInv z) {s : Nat} (hs : s < rN z) : x2_ticksToRise (0 + 4 + s) (z 75) (z 76) A = some (nI (rRs z s)) := by
  obtain ⟨-, -, a1, a2⟩ := hi.seg hs
  obtain ⟨⟨b1, b2⟩, ⟨c1, c2⟩, -⟩ := hi.set
  have e1 := lc (z 76) 1 (k := 1) rfl
  unfold x2_ticksToRise rRs
  rw [(h.seg hs).2.2.1]
  by_cases c : z (3 * s + 2) ≤ z 75
  · rw [if_pos c, if_pos (by rw [jA_le] at c; exact c)]; rfl
  · have c' : ¬ (z (3 * s + 2)).toInt ≤ (z 75).toInt := fun q => c (by rw [jA_le]; exact q)
    obtain ⟨x, x1, x2, -⟩ := jA_of (x := z (3 * s + 2)) (n := 1000) (by omega) (by omega)
    obtain ⟨l, l1, l2, -⟩ := jA_of (x := z 75) (n := 1000) (by omega) (by omega)
    obtain ⟨r, r1, r2, -⟩ := jA_of (x := z 76) (n := 1000) (by omega) (by omega)
    rw [x2] at a1 a2 c' ⊢
    rw [l2] at b1 b2 c' ⊢
    rw [r2] at c1 c2 e1 ⊢
    rw [jA_n (by omega)] at a1 a2 c' b1 b2 c1 c2
    rw [jA_n (by omega)] at c'
    rw [if_neg (fun q => c' ((jA_le _ _).mp q |> fun w => by rw [jA_n (by omega), jA_n (by omega)] at w; exact w)), if_pos (e1.2.2.2.mpr (by rw [jA_n (by omega)]; omega)), mCk_t (nI_ne (by omega) (by omega)), if_neg (by rw [jA_n (by omega), jA_n (by omega)]; exact c')]
    rw [jA_n (by omega), jA_n (by omega), jA_n (by omega), pk_sub (by omega), nI_add, show nI (x - l + r) - (1 : Int32) = nI (x - l + r - 1) from pk_sub (b := 1) (by omega), pk_div (by omega) (by omega) (by omega)]
    rfl

theorem aSeg0 (h : Rs A 0 z) (hi : rInv z) {s : Nat} (hs : s < rN z) : x5_segment (nI s) 0 A = some (z (3 * s)) := by
  unfold x5_segment
  rw [sSeg h hi hs, bs, mOs, if_pos (show (0 : Int32) = 0 from rfl), (h.seg hs).1]
theorem aSeg1 (h : Rs A 0 z) (hi : rInv z) {s : Nat} (hs : s < rN z) : x5_segment (nI s) 1 A = some (if rPs z s then 1 else 0) := by
  unfold x5_segment
  rw [sSeg h hi hs, bs, mOs, if_neg (show ¬ (1 : Int32) = 0 by decide), if_pos (show (1 : Int32) = 1 from rfl), sPs h hi hs, bs, ite10]
  by_cases q : rPs z s
  · rw [if_pos q, if_pos q]
  · rw [if_neg q, if_neg q]
theorem aSeg2 (h : Rs A 0 z) (hi : rInv z) {s : Nat} (hs : s < rN z) : x5_segment (nI s) 2 A = some (z (3 * s + 2)) := by
  unfold x5_segment
  rw [sSeg h hi hs, bs, mOs, if_neg (show ¬ (2 : Int32) = 0 by decide), if_neg (show ¬ (2 : Int32) = 1 by decide), if_pos (show (2 : Int32) = 2 from rfl), (h.seg hs).2.2.1]
theorem aSeg3 (h : Rs A 0 z) (hi : rInv z) {s : Nat} (hs : s < rN z) : x5_segment (nI s) 3 A = some (rTrIn z (nI s)) := by
  unfold x5_segment
  rw [sSeg h hi hs, bs, mOs, if_neg (show ¬ (3 : Int32) = 0 by decide), if_neg (show ¬ (3 : Int32) = 1 by decide), if_neg (show ¬ (3 : Int32) = 2 by decide), if_pos (show (3 : Int32) = 3 from rfl), sTrIn h hi, bs]
theorem aSeg4 (h : Rs A 0 z) (hi : rInv z) {s : Nat} (hs : s < rN z) : x5_segment (nI s) 4 A = some (rWIns z (nI s)) := by
  unfold x5_segment
  rw [sSeg h hi hs, bs, mOs, if_neg (show ¬ (4 : Int32) = 0 by decide), if_neg (show ¬ (4 : Int32) = 1 by decide), if_neg (show ¬ (4 : Int32) = 2 by decide), if_neg (show ¬ (4 : Int32) = 3 by decide), if_pos (show (4 : Int32) = 4 from rfl), sWIn h hi, bs]
theorem aSeg5 (h : Rs A 0 z) (hi : rInv z) {s : Nat} (hs : s < rN z) : x5_segment (nI s) 5 A = some (rRoom z s - rTrIn z (nI s)) := by
  unfold x5_segment
  rw [sSeg h hi hs, bs, mOs, if_neg (show ¬ (5 : Int32) = 0 by decide), if_neg (show ¬ (5 : Int32) = 1 by decide), if_neg (show ¬ (5 : Int32) = 2 by decide), if_neg (show ¬ (5 : Int32) = 3 by decide), if_neg (show ¬ (5 : Int32) = 4 by decide), if_pos (show (5 : Int32) = 5 from rfl), sTrIn h hi, bs, (h.seg hs).2.1]
theorem aSeg6 (h : Rs A 0 z) (hi : rInv z) {s : Nat} (hs : s < rN z) : x5_segment (nI s) 6 A = some (nI (rRs z s)) := by
  unfold x5_segment
  rw [sSeg h hi hs, bs, mOs, if_neg (show ¬ (6 : Int32) = 0 by decide), if_neg (show ¬ (6 : Int32) = 1 by decide), if_neg (show ¬ (6 : Int32) = 2 by decide), if_neg (show ¬ (6 : Int32) = 3 by decide), if_neg (show ¬ (6 : Int32) = 4 by decide), if_neg (show ¬ (6 : Int32) = 5 by decide), if_pos (show (6 : Int32) = 6 from rfl), show A (0 + 3) 0 = z 75 from h.set.1, show A (0 + 3) 1 = z 76 from h.set.2.1, aRise h hi hs, bs]
theorem aTr0 (h : Rs A 0 z) (hi : rInv z) {t : Nat} (ht : t < rM z) : x5_train (nI t) 0 A = some (z (36 + 9 * t + 0)) := by
  unfold x5_train
  rw [sTr h hi ht, bs, mOs, if_pos (show (0 : Int32) = 0 from rfl), h.tr ht (k := 0) (by decide)]
theorem aTr1 (h : Rs A 0 z) (hi : rInv z) {t : Nat} (ht : t < rM z) : x5_train (nI t) 1 A = some (z (36 + 9 * t + 1)) := by
  unfold x5_train
  rw [sTr h hi ht, bs, mOs, if_neg (show ¬ (1 : Int32) = 0 by decide), if_pos (show (1 : Int32) = 1 from rfl), h.tr ht (k := 1) (by decide)]
theorem aTr2 (h : Rs A 0 z) (hi : rInv z) {t : Nat} (ht : t < rM z) : x5_train (nI t) 2 A = some (z (36 + 9 * t + 2)) := by
  unfold x5_train
  rw [sTr h hi ht, bs, mOs, if_neg (show ¬ (2 : Int32) = 0 by decide), if_neg (show ¬ (2 : Int32) = 1 by decide), if_pos (show (2 : Int32) = 2 from rfl), h.tr ht (k := 2) (by decide)]
theorem aTr3 (h : Rs A 0 z) (hi : rInv z) {t : Nat} (ht : t < rM z) : x5_train (nI t) 3 A = some (z (36 + 9 * t + 3)) := by
  unfold x5_train
  rw [sTr h hi ht, bs, mOs, if_neg (show ¬ (3 : Int32) = 0 by decide), if_neg (show ¬ (3 : Int32) = 1 by decide), if_neg (show ¬ (3 : Int32) = 2 by decide), if_pos (show (3 : Int32) = 3 from rfl), h.tr ht (k := 3) (by decide)]
theorem aTr4 (h : Rs A 0 z) (hi : rInv z) {t : Nat} (ht : t < rM z) : x5_train (nI t) 4 A = some (z (36 + 9 * t + 4)) := by
  unfold x5_train
  rw [sTr h hi ht, bs, mOs, if_neg (show ¬ (4 : Int32) = 0 by decide), if_neg (show ¬ (4 : Int32) = 1 by decide), if_neg (show ¬ (4 : Int32) = 2 by decide), if_neg (show ¬ (4 : Int32) = 3 by decide), if_pos (show (4 : Int32) = 4 from rfl), h.tr ht (by decide)]
  obtain ⟨-, -, -, -, hu⟩ := hi.tr ht
  rcases hu with hu | hu <;> rw [hu] <;> rfl
theorem aTr5 (h : Rs A 0 z) (hi : rInv z) {t : Nat} (ht : t < rM z) : x5_train (nI t) 5 A = some (z (36 + 9 * t + 5)) := by
  unfold x5_train
  rw [sTr h hi ht, bs, mOs, if_neg (show ¬ (5 : Int32) = 0 by decide), if_neg (show ¬ (5 : Int32) = 1 by decide), if_neg (show ¬ (5 : Int32) = 2 by decide), if_neg (show ¬ (5 : Int32) = 3 by decide), if_neg (show ¬ (5 : Int32) = 4 by decide), if_pos (show (5 : Int32) = 5 from rfl), h.tr ht (k := 5) (by decide)]
theorem aTr6 (h : Rs A 0 z) (hi : rInv z) {t : Nat} (ht : t < rM z) : x5_train (nI t) 6 A = some (z (36 + 9 * t + 6)) := by
  unfold x5_train
  rw [sTr h hi ht, bs, mOs, if_neg (show ¬ (6 : Int32) = 0 by decide), if_neg (show ¬ (6 : Int32) = 1 by decide), if_neg (show ¬ (6 : Int32) = 2 by decide), if_neg (show ¬ (6 : Int32) = 3 by decide), if_neg (show ¬ (6 : Int32) = 4 by decide), if_neg (show ¬ (6 : Int32) = 5 by decide), if_pos (show (6 : Int32) = 6 from rfl), h.tr ht (k := 6) (by decide)]
theorem aTr7 (h : Rs A 0 z) (hi : rInv z) {t : Nat} (ht : t < rM z) : x5_train (nI t) 7 A = some (z (36 + 9 * t + 7)) := by
  unfold x5_train
  rw [sTr h hi ht, bs, mOs, if_neg (show ¬ (7 : Int32) = 0 by decide), if_neg (show ¬ (7 : Int32) = 1 by decide), if_neg (show ¬ (7 : Int32) = 2 by decide), if_neg (show ¬ (7 : Int32) = 3 by decide), if_neg (show ¬ (7 : Int32) = 4 by decide), if_neg (show ¬ (7 : Int32) = 5 by decide), if_neg (show ¬ (7 : Int32) = 6 by decide), if_pos (show (7 : Int32) = 7 from rfl), h.tr ht (k := 7) (by decide)]
theorem aTr8 (h : Rs A 0 z) (hi : rInv z) {t : Nat} (ht : t < rM z) : x5_train (nI t) 8 A = some (z (36 + 9 * t + 8)) := by
  unfold x5_train
  rw [sTr h hi ht, bs, mOs, if_neg (show ¬ (8 : Int32) = 0 by decide), if_neg (show ¬ (8 : Int32) = 1 by decide), if_neg (show ¬ (8 : Int32) = 2 by decide), if_neg (show ¬ (8 : Int32) = 3 by decide), if_neg (show ¬ (8 : Int32) = 4 by decide), if_neg (show ¬ (8 : Int32) = 5 by decide), if_neg (show ¬ (8 : Int32) = 6 by decide), if_neg (show ¬ (8 : Int32) = 7 by decide), if_pos (show (8 : Int32) = 8 from rfl), h.tr ht (k := 8) (by decide)]
theorem aTr9 (h : Rs A 0 z) (hi : rInv z) {t : Nat} (ht : t < rM z) : x5_train (nI t) 9 A = some (rW z t) := by
  unfold x5_train
  rw [sTr h hi ht, bs, mOs, if_neg (show ¬ (9 : Int32) = 0 by decide), if_neg (show ¬ (9 : Int32) = 1 by decide), if_neg (show ¬ (9 : Int32) = 2 by decide), if_neg (show ¬ (9 : Int32) = 3 by decide), if_neg (show ¬ (9 : Int32) = 4 by decide), if_neg (show ¬ (9 : Int32) = 5 by decide), if_neg (show ¬ (9 : Int32) = 6 by decide), if_neg (show ¬ (9 : Int32) = 7 by decide), if_neg (show ¬ (9 : Int32) = 8 by decide), if_pos (show (9 : Int32) = 9 from rfl), show x4_weight (0 + 16 + t) A = some (rW z t) by unfold x4_weight rW; rw [h.tr ht (k := 0) (by decide), h.tr ht (k := 2) (by decide)], bs]
theorem aTrN (h : Rs A 0 z) (hi : rInv z) {t k : Nat} (ht : t < rM z) (hk : k < 9) : x5_train (nI t) (nI k) A = some (z (36 + 9 * t + k)) := by
  rcases (show k = 0 ∨ k = 1 ∨ k = 2 ∨ k = 3 ∨ k = 4 ∨ k = 5 ∨ k = 6 ∨ k = 7 ∨ k = 8 by omega) with rfl | rfl | rfl | rfl | rfl | rfl | rfl | rfl | rfl
  · exact aTr0 h hi ht
  · exact aTr1 h hi ht
  · exact aTr2 h hi ht
  · exact aTr3 h hi ht
  · exact aTr4 h hi ht
  · exact aTr5 h hi ht
  · exact aTr6 h hi ht
  · exact aTr7 h hi ht
  · exact aTr8 h hi ht
theorem aWhy (h : Rs A 0 z) (hi : rInv z) {t : Nat} (ht : t < rM z) : x5_why (nI t) A = some (rReason z t) := by
  unfold x5_why
  rw [sTr h hi ht, bs, mOs, cReason h hi ht, bs]
theorem aSet (h : Rs A 0 z) {k : Nat} (hk : k < 3) : x5_setting (nI k) A = some (z (75 + k)) := by
  obtain ⟨a0, a1, a2⟩ := h.set
  unfold x5_setting x5_isSetting
  rcases (show k = 0 ∨ k = 1 ∨ k = 2 by omega) with rfl | rfl | rfl
  · rw [if_neg (show ¬ nI 0 < 0 by decide), if_neg (show ¬ (3 : Int32) ≤ nI 0 by decide), bs, if_neg one_ne, mCk_t (by decide)]; exact congrArg some a0
  · rw [if_neg (show ¬ nI 1 < 0 by decide), if_neg (show ¬ (3 : Int32) ≤ nI 1 by decide), bs, if_neg one_ne, mCk_t (by decide)]; exact congrArg some a1
  · rw [if_neg (show ¬ nI 2 < 0 by decide), if_neg (show ¬ (3 : Int32) ≤ nI 2 by decide), bs, if_neg one_ne, mCk_t (by decide)]; exact congrArg some a2
theorem aAcc0 (h : Rs A 0 z) (hi : rInv z) : x5_account 0 A = some (z 78) := by
  unfold x5_account
  rw [if_pos (show (0 : Int32) = 0 from rfl), h.1.2.2.2.1]
theorem aAcc1 (h : Rs A 0 z) (hi : rInv z) : x5_account 1 A = some (z 79) := by
  unfold x5_account
  rw [if_neg (show ¬ (1 : Int32) = 0 by decide), if_pos (show (1 : Int32) = 1 from rfl), h.1.2.2.1]
theorem aAcc2 (h : Rs A 0 z) (hi : rInv z) : x5_account 2 A = some (rPeat z) := by
  unfold x5_account
  rw [if_neg (show ¬ (2 : Int32) = 0 by decide), if_neg (show ¬ (2 : Int32) = 1 by decide), if_pos (show (2 : Int32) = 2 from rfl), sPeat h hi, bs]
theorem aAcc3 (h : Rs A 0 z) (hi : rInv z) : x5_account 3 A = some (z 80) := by
  unfold x5_account
  rw [if_neg (show ¬ (3 : Int32) = 0 by decide), if_neg (show ¬ (3 : Int32) = 1 by decide), if_neg (show ¬ (3 : Int32) = 2 by decide), if_pos (show (3 : Int32) = 3 from rfl), h.1.2.2.2.2.1]
theorem aAcc4 (h : Rs A 0 z) (hi : rInv z) : x5_account 4 A = some (z 81) := by
  unfold x5_account
  rw [if_neg (show ¬ (4 : Int32) = 0 by decide), if_neg (show ¬ (4 : Int32) = 1 by decide), if_neg (show ¬ (4 : Int32) = 2 by decide), if_neg (show ¬ (4 : Int32) = 3 by decide), if_pos (show (4 : Int32) = 4 from rfl), h.1.2.2.2.2.2.1]
theorem aCnt0 (h : Rs A 0 z) (hi : rInv z) : x5_count 0 A = some (nI (rN z)) := by
  unfold x5_count
  rw [if_pos (show (0 : Int32) = 0 from rfl), h.n hi]
theorem aCnt1 (h : Rs A 0 z) (hi : rInv z) : x5_count 1 A = some (nI (rM z)) := by
  unfold x5_count
  rw [if_neg (show ¬ (1 : Int32) = 0 by decide), if_pos (show (1 : Int32) = 1 from rfl), h.m hi]
theorem aCnt2 (h : Rs A 0 z) (hi : rInv z) : x5_count 2 A = some (z 74) := by
  unfold x5_count
  rw [if_neg (show ¬ (2 : Int32) = 0 by decide), if_neg (show ¬ (2 : Int32) = 1 by decide), if_pos (show (2 : Int32) = 2 from rfl), h.1.2.2.2.2.2.2]
theorem aCnt3 (h : Rs A 0 z) (hi : rInv z) : x5_count 3 A = some (rDeep z) := by
  unfold x5_count
  rw [if_neg (show ¬ (3 : Int32) = 0 by decide), if_neg (show ¬ (3 : Int32) = 1 by decide), if_neg (show ¬ (3 : Int32) = 2 by decide), if_pos (show (3 : Int32) = 3 from rfl), sDeep h hi, bs]
theorem aCnt4 (h : Rs A 0 z) (hi : rInv z) : x5_count 4 A = some (rWaits z) := by
  unfold x5_count
  rw [if_neg (show ¬ (4 : Int32) = 0 by decide), if_neg (show ¬ (4 : Int32) = 1 by decide), if_neg (show ¬ (4 : Int32) = 2 by decide), if_neg (show ¬ (4 : Int32) = 3 by decide), if_pos (show (4 : Int32) = 4 from rfl), sWaits h hi, bs]
theorem aCnt7 (h : Rs A 0 z) (hi : rInv z) : x5_count 7 A = some (rSunk z) := by
  unfold x5_count
  rw [if_neg (show ¬ (7 : Int32) = 0 by decide), if_neg (show ¬ (7 : Int32) = 1 by decide), if_neg (show ¬ (7 : Int32) = 2 by decide), if_neg (show ¬ (7 : Int32) = 3 by decide), if_neg (show ¬ (7 : Int32) = 4 by decide), if_neg (show ¬ (7 : Int32) = 5 by decide), if_neg (show ¬ (7 : Int32) = 6 by decide), if_pos (show (7 : Int32) = 7 from rfl), sSunk h hi, bs]
theorem aCnt5 (A : mM) : x5_count 5 A = some (A 243 1) := by
  unfold x5_count x0_size
  rw [if_neg (show ¬ (5 : Int32) = 0 by decide), if_neg (show ¬ (5 : Int32) = 1 by decide), if_neg (show ¬ (5 : Int32) = 2 by decide), if_neg (show ¬ (5 : Int32) = 3 by decide), if_neg (show ¬ (5 : Int32) = 4 by decide), if_pos (show (5 : Int32) = 5 from rfl), bs]
theorem aMean (h : Rs A 0 z) (hi : rInv z) : x5_meanSinking A = some (FP.ddiv (FP.i2d (rSum z)) (FP.i2d (nI (rN z)))) := by
  have hn := hi.n
  obtain ⟨m1, -⟩ := mean_d hi
  unfold x5_meanSinking
  rw [h.n hi, if_pos (show (1 : Int32) ≤ nI (rN z) from (jA_nle (a := 1) (by decide) (by omega)).mpr (by omega)), sSum h hi, bs, mCk_t m1]
end ANS
