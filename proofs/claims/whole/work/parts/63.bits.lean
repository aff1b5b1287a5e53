/-! bitsOf: the bits of a double, counted out -/
theorem bits_join {E T : Nat} (hE : E < 2048) (hT : T < 2 ^ 52) {u : UInt64} (hu : u.toNat = E * 2 ^ 52 + T) : (Int64.ofInt (E : Int) <<< ((52 : Int32).toInt64 &&& 63)) + Int64.ofInt (T : Int) = u.toInt64 := by
  have e52 : (52 : Int32).toInt64 &&& 63 = (52 : Int64) := by decide
  rw [e52]
  apply Int64.toBitVec.inj
  rw [Int64.toBitVec_add, Int64.toBitVec_shiftLeft]
  apply BitVec.eq_of_toNat_eq
  have s52 : ((52 : Int64).toBitVec.smod 64) = 52#64 := by decide
  rw [s52, BitVec.toNat_add, show (u.toInt64.toBitVec).toNat = u.toNat from rfl, hu]
  have h1 : (Int64.ofInt (E : Int)).toBitVec.toNat = E := by
    show (BitVec.ofInt 64 (E : Int)).toNat = E
    rw [BitVec.toNat_ofInt]
    omega
  have h2 : (Int64.ofInt (T : Int)).toBitVec.toNat = T := by
    show (BitVec.ofInt 64 (T : Int)).toNat = T
    rw [BitVec.toNat_ofInt]
    omega
  rw [h2, BitVec.shiftLeft_eq', BitVec.toNat_shiftLeft, h1, show (52#64).toNat = 52 from rfl, Nat.shiftLeft_eq]
  omega
theorem i64_up (z : Int) : Int64.ofInt z + 1 = Int64.ofInt (z + 1) := by rw [Int64.ofInt_add]; rfl
theorem i64_dn (z : Int) : Int64.ofInt z - 1 = Int64.ofInt (z - 1) := by rw [Int64.ofInt_sub]; rfl
theorem bits18 (G : mM) {c : Nat} (S : Int) : ∀ (k n i : Nat) (q : Int), nz c q → (q + 52).toNat = k → k + i < 1100 → k < n → x5_bitsOf_L18 n (nrm c q) (Int64.ofInt (S - q)) (nI i) G = some (nrm c (min q (-52)), Int64.ofInt (S - min q (-52))) := by
  intro k
  induction k with
  | zero =>
    intro n i q hz hk hi hn
    obtain ⟨n, rfl⟩ : ∃ m, n = m + 1 := ⟨n - 1, by omega⟩
    rw [x5_bitsOf_L18, if_neg (show ¬ (1100 : Int32) ≤ nI i from fun r => by have := (jA_nle (a := 1100) (by decide) (by omega)).mp r; omega), if_pos ((cmp_two hz).mpr (by omega)), show min q (-52) = q by omega]
  | succ k ih =>
    intro n i q hz hk hi hn
    obtain ⟨n, rfl⟩ : ∃ m, n = m + 1 := ⟨n - 1, by omega⟩
    have hz' : nz c (q - 1) := by obtain ⟨a, b, d, e⟩ := hz; exact ⟨a, b, by omega, by omega⟩
    rw [x5_bitsOf_L18, if_neg (show ¬ (1100 : Int32) ≤ nI i from fun r => by have := (jA_nle (a := 1100) (by decide) (by omega)).mp r; omega), if_neg (fun r => by have := (cmp_two hz).mp r; omega), half_nrm hz hz', mCk_t (nn_val (nrm_nn hz')), mNm_e, mNm_e, mNm_e, jA_1, i64_up, show S - q + 1 = S - (q - 1) by omega, ih n (i + 1) (q - 1) hz' (by omega) (by omega) (by omega), show min (q - 1) (-52) = min q (-52) by omega]
theorem bits55 (G : mM) {c : Nat} (S : Int) : ∀ (k n i : Nat) (q : Int), nz c q → q ≤ -52 → (-52 - q).toNat = k → k + i < 1100 → k < n → x5_bitsOf_L55 n (nrm c q) (Int64.ofInt (S - q)) (nI i) G = some (nrm c (-52), Int64.ofInt (S + 52)) := by
  intro k
  induction k with
  | zero =>
    intro n i q hz hq hk hi hn
    obtain ⟨n, rfl⟩ : ∃ m, n = m + 1 := ⟨n - 1, by omega⟩
    have e : q = -52 := by omega
    subst e
    rw [x5_bitsOf_L55, if_neg (show ¬ (1100 : Int32) ≤ nI i from fun r => by have := (jA_nle (a := 1100) (by decide) (by omega)).mp r; omega), if_pos ((cmp_one hz).mpr (by omega)), show S - -52 = S + 52 by omega]
  | succ k ih =>
    intro n i q hz hq hk hi hn
    obtain ⟨n, rfl⟩ : ∃ m, n = m + 1 := ⟨n - 1, by omega⟩
    have hz' : nz c (q + 1) := by obtain ⟨a, b, d, e⟩ := hz; exact ⟨a, b, by omega, by omega⟩
    rw [x5_bitsOf_L55, if_neg (show ¬ (1100 : Int32) ≤ nI i from fun r => by have := (jA_nle (a := 1100) (by decide) (by omega)).mp r; omega), if_neg (fun r => by have := (cmp_one hz).mp r; omega), twice_nrm hz hz', mCk_t (nn_val (nrm_nn hz')), mNm_e, mNm_e, mNm_e, jA_1, i64_dn, show S - q - 1 = S - (q + 1) by omega]
    exact ih n (i + 1) (q + 1) hz' (by omega) (by omega) (by omega) (by omega)
theorem inU (c : Nat) (q : Int) : FP.Core.inUnits c q q = c := by
  unfold FP.Core.inUnits
  rw [Int.sub_self]
  exact Nat.mul_one c
theorem bits_frac {c : Nat} (h : nz c (-52)) : mNN (FP.dsub (nrm c (-52)) FP.dconst1) ∧ mNN (FP.dmul (FP.dsub (nrm c (-52)) FP.dconst1) 4841369599423283200) ∧ FP.d2l (FP.dmul (FP.dsub (nrm c (-52)) FP.dconst1) 4841369599423283200) = Int64.ofInt ((c - 2 ^ 52 : Nat) : Int) := by
  obtain ⟨T, hT⟩ : ∃ T, T = c - 2 ^ 52 := ⟨_, rfl⟩
  have hc := h.1
  have hc2 := h.2.1
  have hsub : FP.Core.val64 (FP.dsub (nrm c (-52)) FP.dconst1) = FP.Core.roundRatio FP.Core.b64 false T 1 (-52) := by
    show FP.Core.val64 (FP.Core.dsub (nrm c (-52)) FP.Core.dconst1) = _
    rw [FP.Core.val64_dsub, nrm_val h, FP.Core.val64_dconst1]
    unfold FP.Core.negate FP.Core.exactSum FP.Core.round FP.Core.sumUnits
    dsimp only
    rw [show min (-52 : Int) (-52) = -52 from rfl, inU, inU]
    have hv : FP.Core.signed false c + FP.Core.signed (!false) (2 ^ 52) = (T : Int) := by
      show (c : Int) + -((2 ^ 52 : Nat) : Int) = T
      omega
    rw [hv, show (T : Int).natAbs = T by omega]
    unfold FP.Core.sumSign
    by_cases e : (T : Int) = 0
    · rw [if_pos e]; rfl
    · rw [if_neg e, show decide ((T : Int) < 0) = false from decide_eq_false (by omega)]
  have hmul : ∀ c1 q1, FP.Core.val64 (FP.dsub (nrm c (-52)) FP.dconst1) = .fin false c1 q1 → FP.Core.val64 (FP.dmul (FP.dsub (nrm c (-52)) FP.dconst1) 4841369599423283200) = FP.Core.roundRatio FP.Core.b64 false (c1 * 2 ^ 52) 1 (q1 + 0) := fun c1 q1 he => by
    show FP.Core.val64 (FP.Core.dmul (FP.dsub (nrm c (-52)) FP.dconst1) 4841369599423283200) = _
    rw [FP.Core.val64_dmul, he, big_val]
    rfl
  have hd2l : ∀ a c1 q1, FP.Core.val64 a = .fin false c1 q1 → c1 * 2 ^ q1.toNat / 2 ^ (-q1).toNat = T → FP.d2l a = Int64.ofInt (T : Int) := fun a c1 q1 he ht => by
    show FP.Core.toL (FP.Core.val64 a) = _
    rw [he]
    unfold FP.Core.toL FP.Core.toInt FP.Core.truncate
    dsimp only
    rw [ht]
    congr 1
    show max (-2 ^ 63) (min (2 ^ 63 - 1) (T : Int)) = T
    omega
  by_cases e : T = 0
  · have h1 : FP.Core.val64 (FP.dsub (nrm c (-52)) FP.dconst1) = .fin false 0 (-1074) := by
      rw [hsub, e]; unfold FP.Core.roundRatio; rw [if_pos rfl, q64]
    have h2 : FP.Core.val64 (FP.dmul (FP.dsub (nrm c (-52)) FP.dconst1) 4841369599423283200) = .fin false 0 (-1074) := by
      rw [hmul _ _ h1]; unfold FP.Core.roundRatio; rw [if_pos (Nat.zero_mul _), q64]
    refine ⟨nn_val (by rw [h1]; exact fun z => by cases z), nn_val (by rw [h2]; exact fun z => by cases z), ?_⟩
    rw [← hT]
    refine hd2l _ 0 (-1074) h2 ?_
    rw [Nat.zero_mul, Nat.zero_div, e]
  · obtain ⟨j, j1, j2, j3⟩ := nrmR (A := T) (by omega) (by omega) (-52) (by decide) (by decide)
    have h1 : FP.Core.val64 (FP.dsub (nrm c (-52)) FP.dconst1) = .fin false (T * 2 ^ j) (-52 - j) := hsub.trans j3
    have hz2 : nz (T * 2 ^ j) (-(j : Int)) := ⟨j2.1, j2.2.1, by omega, by omega⟩
    have h2 : FP.Core.val64 (FP.dmul (FP.dsub (nrm c (-52)) FP.dconst1) 4841369599423283200) = .fin false (T * 2 ^ j) (-(j : Int)) := by
      rw [hmul _ _ h1]
      refine FP.Core.roundRatio_exact FP.Core.good_b64 (by decide) (nz_fits hz2) ?_
      rw [show (-52 - (j : Int) + 0 - -(j : Int)).toNat = 0 by omega, show (-(j : Int) - (-52 - (j : Int) + 0)).toNat = 52 by omega, Nat.mul_one, Nat.mul_one]
    refine ⟨nn_val (by rw [h1]; exact fun z => by cases z), nn_val (by rw [h2]; exact fun z => by cases z), ?_⟩
    rw [← hT]
    refine hd2l _ _ _ h2 ?_
    rw [show (-(j : Int)).toNat = 0 by omega, show (- -(j : Int)).toNat = j by omega, Nat.pow_zero, Nat.mul_one]
    exact Nat.mul_div_cancel _ (Nat.two_pow_pos j)
theorem bitsB (G : mM) {c : Nat} {q : Int} (h : nz c q) : x5_bitsOf (nrm c q) G = some (nrm c q).toInt64 := by
  have h' := h
  obtain ⟨a, b, d, e⟩ := h'
  have hm : nz c (min q (-52)) := ⟨a, b, by omega, by omega⟩
  have h5 : nz c (-52) := ⟨a, b, by decide, by decide⟩
  obtain ⟨f1, f2, f3⟩ := bits_frac h5
  have hT : c - 2 ^ 52 < 2 ^ 52 := by omega
  unfold x5_bitsOf
  rw [if_pos (cmp_zero h), mNm_e]
  have L1 := bits18 G (1023 + q) _ mFu 0 q h rfl (by omega) (by unfold mFu; omega)
  rw [show 1023 + q - q = 1023 by omega] at L1
  have L2 := bits55 G (1023 + q) _ mFu 0 (min q (-52)) hm (by omega) rfl (by omega) (by unfold mFu; omega)
  rw [show x5_bitsOf_L18 mFu (nrm c q) 1023 0 G = _ from L1, bs, show x5_bitsOf_L55 mFu (nrm c (min q (-52))) (Int64.ofInt (1023 + q - min q (-52))) 0 G = _ from L2, bs]
  dsimp only
  rw [mCk_t f1, mCk_t f2, mNm_e, f3, show 1023 + q + 52 = (((q + 1075).toNat : Nat) : Int) by omega, bits_join (by omega) hT (nrm_nat h)]
