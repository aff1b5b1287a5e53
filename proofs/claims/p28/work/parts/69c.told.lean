/-! THE LAW'S told -/
section LTOLD
variable {a b c : Nat} {G : mM} {D S T z : mR}
theorem lRest (h3 : l3 a b c) (hL : LR D S T z) (hi : rInv z) {s : Nat} (hs : s < rN z) (y4 y5 y6 : Int32) : xL_told_L30 a 10 b 24 c 40 y4 y5 y6 (z (3 * s + 2)) mFu 0 (lm a b c G D S T) = some (nI (rRs z s)) := by
  obtain ⟨-, -, a1, a2⟩ := hi.seg hs
  obtain ⟨⟨b1, b2⟩, ⟨c1, c2⟩, -⟩ := hi.set
  obtain ⟨x, x1, x2, -⟩ := jA_of (x := z (3 * s + 2)) (n := 1000) (by omega) (by omega)
  obtain ⟨l, l1, l2, -⟩ := jA_of (x := z 75) (n := 1000) (by omega) (by omega)
  obtain ⟨r, r1, r2, -⟩ := jA_of (x := z 76) (n := 51) (by omega) (by omega)
  have r0 : 1 ≤ r := by rw [r2, jA_n (by omega)] at c1; omega
  have hK : rRs z s = if x ≤ l then 0 else (x - l + r - 1) / r := by
    unfold rRs
    rw [x2, l2, r2, jA_n (by omega), jA_n (by omega), jA_n (by omega)]
    by_cases q : x ≤ l
    · rw [if_pos q, if_pos (by omega)]
    · rw [if_neg q, if_neg (by omega)]; rfl
  obtain ⟨K, hKe⟩ : ∃ K, rRs z s = K := ⟨_, rfl⟩
  rw [hKe] at hK ⊢
  have k1 : ∀ i, i < K → l + i * r < x := fun i hi => by
    by_cases q : x ≤ l
    · rw [if_pos q] at hK; omega
    · rw [if_neg q] at hK
      have h1 : K * r ≤ x - l + r - 1 := by rw [hK]; exact Nat.div_mul_le_self _ _
      have h2 : (i + 1) * r ≤ K * r := Nat.mul_le_mul_right r (by omega)
      rw [Nat.add_mul] at h2
      omega
  have k2 : x ≤ l + K * r := by
    by_cases q : x ≤ l
    · rw [if_pos q] at hK; omega
    · rw [if_neg q] at hK
      have h1 := Nat.div_add_mod (x - l + r - 1) r
      have h2 := Nat.mod_lt (x - l + r - 1) (show r > 0 by omega)
      rw [← hK, Nat.mul_comm] at h1
      omega
  have kB : K ≤ 1050 := by
    by_cases q : x ≤ l
    · rw [if_pos q] at hK; omega
    · rw [if_neg q] at hK
      have := Nat.div_le_self (x - l + r - 1) r
      omega
  have kR : ∀ i, i ≤ K → i * r ≤ 60000 := fun i hi => by
    have := Nat.mul_le_mul (show i ≤ 1050 by omega) (show r ≤ 50 by omega)
    omega
  have key : ∀ i, i ≤ K → (z (3 * s + 2) - nI i * D 3 ≤ D 2 ↔ x ≤ l + i * r) := fun i hi => by
    rw [show D 3 = nI r from hL.1.2.2.2.1.trans r2, show D 2 = nI l from hL.1.2.2.1.trans l2, x2, pk_mul, jA_le, pk_sub_toInt (by omega) (by have := kR i hi; omega), jA_n (by omega)]
    omega
  have h := lpV (α := Unit) (fun n _ i => xL_told_L30 a 10 b 24 c 40 y4 y5 y6 (z (3 * s + 2)) n i (lm a b c G D S T)) (fun _ => nI K) (fun _ => ()) K (by omega) (fun n i hn => ?_) (fun n => ?_)
  · exact h
  · show xL_told_L30 a 10 b 24 c 40 y4 y5 y6 (z (3 * s + 2)) (n + 1) (nI i) (lm a b c G D S T) = xL_told_L30 a 10 b 24 c 40 y4 y5 y6 (z (3 * s + 2)) n (nI (i + 1)) (lm a b c G D S T)
    rw [xL_told_L30, mCk_t dk3, mCk_t dk2, rD3, rD2, if_neg (fun q => by have := (key i (by omega)).mp q; have := k1 i hn; omega), mNm_e, jA_1]
  · show xL_told_L30 a 10 b 24 c 40 y4 y5 y6 (z (3 * s + 2)) (n + 1) (nI K) (lm a b c G D S T) = some (nI K)
    rw [xL_told_L30, mCk_t dk3, mCk_t dk2, rD3, rD2, if_pos ((key K (Nat.le_refl _)).mpr k2)]
set_option maxHeartbeats 4000000 in
theorem lTold1 (h3 : l3 a b c) (hL : LR D S T z) (hi : rInv z) (hA : Rs (lm a b c G D S T) 0 z) : xL_told_L9 a 10 b 24 c 40 mFu 0 0 0 (lm a b c G D S T) = some (0, rSum z, rSunk z) := by
  have hN := hi.n
  have h8 := hL.2.1
  have d2 : D 2 = z 75 := hL.1.2.2.1
  have h := lpV (α := Int32 × Int32) (fun n w i => xL_told_L9 a 10 b 24 c 40 n w.1 w.2 i (lm a b c G D S T)) (fun w => ((0 : Nat), w.1, w.2)) (fun i => (sumI (fun s => z (3 * s + 2)) i, orI (fun s => if z (3 * s + 2) ≤ z 75 then 0 else 1 <<< (nI s &&& 31)) i)) (rN z) (by omega) (fun n i hn => ?_) (fun n => ?_)
  · exact h
  · show xL_told_L9 a 10 b 24 c 40 (n + 1) (sumI (fun s => z (3 * s + 2)) i) (orI (fun s => if z (3 * s + 2) ≤ z 75 then 0 else 1 <<< (nI s &&& 31)) i) (nI i) (lm a b c G D S T) = xL_told_L9 a 10 b 24 c 40 n (sumI (fun s => z (3 * s + 2)) i + z (3 * i + 2)) (orI (fun s => if z (3 * s + 2) ≤ z 75 then 0 else 1 <<< (nI s &&& 31)) i ||| (if z (3 * i + 2) ≤ z 75 then (0 : Int32) else 1 <<< (nI i &&& 31))) (nI (i + 1)) (lm a b c G D S T)
    have i8 : i < 8 := by omega
    obtain ⟨s0, s2, -⟩ := hL.2.2.1 i hn
    obtain ⟨-, -, f1, -, -⟩ := thF hi (o := i) (by omega)
    have fin : ∀ v, (if z (3 * i + 2) ≤ z 75 then (0 : Int32) else 1 <<< (nI i &&& 31)) = v → xL_told_L9 a 10 b 24 c 40 n (sumI (fun s => z (3 * s + 2)) i + z (3 * i + 2)) (orI (fun s => if z (3 * s + 2) ≤ z 75 then 0 else 1 <<< (nI s &&& 31)) i ||| v) (nI (i + 1)) (lm a b c G D S T) = xL_told_L9 a 10 b 24 c 40 n (sumI (fun s => z (3 * s + 2)) i + z (3 * i + 2)) (orI (fun s => if z (3 * s + 2) ≤ z 75 then 0 else 1 <<< (nI s &&& 31)) i ||| (if z (3 * i + 2) ≤ z 75 then (0 : Int32) else 1 <<< (nI i &&& 31))) (nI (i + 1)) (lm a b c G D S T) := fun v hv => by rw [hv]
    rw [xL_told_L9, mCk_t dk0, rD0, hL.d0 hi, if_neg (fun q => by have := (jA_nle (by omega) (by omega)).mp q; omega), mCk_t (sk2 i8), mNm_e, rS2 h3 i8, s2, lRest h3 hL hi hn, bs, mNm_e, mCk_t dk2, rD2, d2]
    by_cases h2 : z (3 * i + 2) ≤ z 75
    · rw [if_pos h2, mNm_e, aSeg0 hA hi hn, bs, mCk_t (sk0 i8), rS0 h3 i8, s0, if_pos rfl, aSeg1 hA hi hn, bs, lPs h3 hL hi hn, bs]
      by_cases hP : rPs z i
      · rw [if_pos hP, if_neg one_ne, if_pos rfl, aSeg2 hA hi hn, bs, if_pos rfl, aSeg3 hA hi hn, bs, lMany h3 hL hi (by omega), bs, if_pos rfl, aSeg4 hA hi hn, bs, lThere h3 hL hi, bs, f1, if_pos rfl, aSeg5 hA hi hn, bs, lRoom h3 hL hi hn, bs, bs, if_pos rfl, aSeg6 hA hi hn, bs, if_pos rfl, mNm_e, jA_1]
        exact fin _ (by rw [if_pos h2])
      · rw [if_neg hP, if_pos rfl, if_pos rfl, aSeg2 hA hi hn, bs, if_pos rfl, aSeg3 hA hi hn, bs, lMany h3 hL hi (by omega), bs, if_pos rfl, aSeg4 hA hi hn, bs, lThere h3 hL hi, bs, f1, if_pos rfl, aSeg5 hA hi hn, bs, lRoom h3 hL hi hn, bs, bs, if_pos rfl, aSeg6 hA hi hn, bs, if_pos rfl, mNm_e, jA_1]
        exact fin _ (by rw [if_pos h2])
    · rw [if_neg h2, mNm_e, aSeg0 hA hi hn, bs, mCk_t (sk0 i8), rS0 h3 i8, s0, if_pos rfl, aSeg1 hA hi hn, bs, lPs h3 hL hi hn, bs]
      by_cases hP : rPs z i
      · rw [if_pos hP, if_neg one_ne, if_pos rfl, aSeg2 hA hi hn, bs, if_pos rfl, aSeg3 hA hi hn, bs, lMany h3 hL hi (by omega), bs, if_pos rfl, aSeg4 hA hi hn, bs, lThere h3 hL hi, bs, f1, if_pos rfl, aSeg5 hA hi hn, bs, lRoom h3 hL hi hn, bs, bs, if_pos rfl, aSeg6 hA hi hn, bs, if_pos rfl, mNm_e, jA_1]
        exact fin _ (by rw [if_neg h2])
      · rw [if_neg hP, if_pos rfl, if_pos rfl, aSeg2 hA hi hn, bs, if_pos rfl, aSeg3 hA hi hn, bs, lMany h3 hL hi (by omega), bs, if_pos rfl, aSeg4 hA hi hn, bs, lThere h3 hL hi, bs, f1, if_pos rfl, aSeg5 hA hi hn, bs, lRoom h3 hL hi hn, bs, bs, if_pos rfl, aSeg6 hA hi hn, bs, if_pos rfl, mNm_e, jA_1]
        exact fin _ (by rw [if_neg h2])
  · show xL_told_L9 a 10 b 24 c 40 (n + 1) _ _ (nI (rN z)) (lm a b c G D S T) = _
    rw [xL_told_L9, mCk_t dk0, rD0, hL.d0 hi, if_pos ((jA_nle (by omega) (by omega)).mpr (Nat.le_refl _))]
theorem lTold2 (h3 : l3 a b c) (hL : LR D S T z) (hi : rInv z) (hA : Rs (lm a b c G D S T) 0 z) (y4 y5 : Int32) : xL_told_L219 a 10 b 24 c 40 y4 y5 mFu 0 (lm a b c G D S T) = some 0 := by
  have hM := hi.m
  have h := lpV (α := Unit) (fun n _ i => xL_told_L219 a 10 b 24 c 40 y4 y5 n i (lm a b c G D S T)) (fun _ => (0 : Nat)) (fun _ => ()) (rM z) (by omega) (fun n i hn => ?_) (fun n => ?_)
  · exact h
  · show xL_told_L219 a 10 b 24 c 40 y4 y5 (n + 1) (nI i) (lm a b c G D S T) = xL_told_L219 a 10 b 24 c 40 y4 y5 n (nI (i + 1)) (lm a b c G D S T)
    have hin : xL_told_L230 a 10 b 24 c 40 y4 y5 (nI i) mFu 0 (lm a b c G D S T) = some 0 := by
      have h := lpV (α := Unit) (fun n _ j => xL_told_L230 a 10 b 24 c 40 y4 y5 (nI i) n j (lm a b c G D S T)) (fun _ => (0 : Nat)) (fun _ => ()) 9 (by omega) (fun n j hj => ?_) (fun n => ?_)
      · exact h
      · show xL_told_L230 a 10 b 24 c 40 y4 y5 (nI i) (n + 1) (nI j) (lm a b c G D S T) = xL_told_L230 a 10 b 24 c 40 y4 y5 (nI i) n (nI (j + 1)) (lm a b c G D S T)
        have q := tI (t := i) (k := j) (by omega)
        rw [xL_told_L230, if_neg (show ¬ (9 : Int32) ≤ nI j from fun q => by have := (jA_nle (a := 9) (by decide) (by omega)).mp q; omega), aTrN hA hi hn hj, bs, mCk_t q.1, lm_c h3, show T (((10 : Int32) * nI i + nI j).toNatClampNeg) = z (36 + 9 * i + j) from (congrArg T q.2).trans (hL.tr hn hj), if_pos rfl, mNm_e, jA_1]
      · show xL_told_L230 a 10 b 24 c 40 y4 y5 (nI i) (n + 1) (nI 9) (lm a b c G D S T) = some 0
        rw [xL_told_L230, if_pos (show (9 : Int32) ≤ nI 9 by decide)]
    rw [xL_told_L219, mCk_t dk1, rD1, hL.d1 hi, if_neg (fun q => by have := (jA_nle (by omega) (by omega)).mp q; omega), hin, bs, if_pos rfl, aTr9 hA hi hn, bs, lW h3 hL hi hn, bs, if_pos rfl, aWhy hA hi hn, bs, lWhy h3 hL hi hn, bs, if_pos rfl, mNm_e, jA_1]
  · show xL_told_L219 a 10 b 24 c 40 y4 y5 (n + 1) (nI (rM z)) (lm a b c G D S T) = some 0
    rw [xL_told_L219, mCk_t dk1, rD1, hL.d1 hi, if_pos ((jA_nle (by omega) (by omega)).mpr (Nat.le_refl _))]
theorem lTold3 (hL : LR D S T z) (hA : Rs (lm a b c G D S T) 0 z) (y4 y5 : Int32) : xL_told_L311 a 10 b 24 c 40 y4 y5 mFu 0 (lm a b c G D S T) = some 0 := by
  have h := lpV (α := Unit) (fun n _ i => xL_told_L311 a 10 b 24 c 40 y4 y5 n i (lm a b c G D S T)) (fun _ => (0 : Nat)) (fun _ => ()) 3 (by omega) (fun n i hn => ?_) (fun n => ?_)
  · exact h
  · show xL_told_L311 a 10 b 24 c 40 y4 y5 (n + 1) (nI i) (lm a b c G D S T) = xL_told_L311 a 10 b 24 c 40 y4 y5 n (nI (i + 1)) (lm a b c G D S T)
    have e2 : (2 : Int32) + nI i = nI (2 + i) := nI_add 2 i
    have ed : D (nI (2 + i)).toNatClampNeg = z (75 + i) := by
      rw [jA_clamp (by omega)]
      obtain ⟨-, -, q0, q1, q2, -⟩ := hL.1
      rcases (show i = 0 ∨ i = 1 ∨ i = 2 by omega) with rfl | rfl | rfl
      · exact q0
      · exact q1
      · exact q2
    rw [xL_told_L311, if_neg (show ¬ (3 : Int32) ≤ nI i from fun q => by have := (jA_nle (a := 3) (by decide) (by omega)).mp q; omega), aSet hA hn, bs, e2, mCk_t (jA_in (by omega) (by decide)), lm_a, ed, if_pos rfl, mNm_e, jA_1]
  · show xL_told_L311 a 10 b 24 c 40 y4 y5 (n + 1) (nI 3) (lm a b c G D S T) = some 0
    rw [xL_told_L311, if_pos (show (3 : Int32) ≤ nI 3 by decide)]
set_option maxHeartbeats 4000000 in
theorem lTold (h3 : l3 a b c) (hL : LR D S T z) (hi : rInv z) (hx : rX z) (hA : Rs (lm a b c G D S T) 0 z) : xL_told a 10 b 24 c 40 (lm a b c G D S T) = some 1 := by
  have hn := hi.n
  obtain ⟨q0, q1, q2, q3, q4, q5, q6, q7, q8, q9⟩ := hL.1
  have hs : 0 ≤ (rSum z).toInt ∧ (rSum z).toInt ≤ (rN z : Int) * 999 := sumI_bd (fun s hs => (hi.seg hs).2.2) (by omega) (by decide)
  obtain ⟨o1, o2⟩ := one_i2d (a := rSum z) (by omega)
  obtain ⟨m1, m2⟩ := mean_d hi
  have s2 : xL_sum 2 a 10 c 40 (lm a b c G D S T) = some (rPeat z) := lSum hL h3 hi (w := 2) (by decide)
  have s7 : xL_sum 7 a 10 c 40 (lm a b c G D S T) = some (rWaits z) := lSum hL h3 hi (w := 7) (by decide)
  have hac : z 78 = z 79 + rPeat z + z 80 + z 81 := hx.2
  unfold xL_told
  rw [lTold1 h3 hL hi hA, bs]
  dsimp only
  rw [if_pos rfl, lTold2 h3 hL hi hA, bs, if_pos rfl, lTold3 hL hA, bs, if_pos rfl, aAcc0 hA hi, bs, mCk_t dk5, rD5, q5, if_pos rfl, aAcc1 hA hi, bs, mCk_t dk6, rD6, q6, if_pos rfl, aAcc2 hA hi, bs, s2, bs, if_pos rfl, aAcc3 hA hi, bs, mCk_t dk7, rD7, q7, if_pos rfl, aAcc4 hA hi, bs, mCk_t dk8, rD8, q8, if_pos rfl, mCk_t dk5, mCk_t dk6, bs, mCk_t dk7, mCk_t dk8, if_pos hac]
  rw [aCnt0 hA hi, bs, mCk_t dk0, rD0, hL.d0 hi, if_pos rfl, aCnt1 hA hi, bs, mCk_t dk1, rD1, hL.d1 hi, if_pos rfl, aCnt2 hA hi, bs, mCk_t dk9, rD9, q9, if_pos rfl, aCnt3 hA hi, bs, lSunk hL h3 hi, bs, if_pos rfl, aCnt4 hA hi, bs, s7, bs, if_pos rfl, aCnt7 hA hi, bs, if_pos rfl, aMean hA hi, bs, o1, mCk_t o2, mCk_t dk0, mCk_t m1, if_pos m2]
end LTOLD
