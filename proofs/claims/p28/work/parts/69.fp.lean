/-! THE NUMBERS OF double -/
theorem q64 : FP.Core.b64.qmin = -1074 := by decide
theorem qx64 : FP.Core.b64.qmax = 971 := by decide
theorem t64 : FP.Core.b64.tails = 2 ^ 52 := by decide
theorem p64 : FP.Core.b64.p = 53 := rfl
def nz (c : Nat) (q : Int) : Prop := 2 ^ 52 ≤ c ∧ c < 2 ^ 53 ∧ -1074 ≤ q ∧ q ≤ 971
theorem nz_fits {c : Nat} {q : Int} (h : nz c q) : FP.Core.fits FP.Core.b64 (.fin false c q) := by
  obtain ⟨h1, h2, h3, h4⟩ := h
  refine ⟨h2, by rw [q64]; exact h3, by rw [qx64]; exact h4, Or.inr (by rw [t64]; exact h1)⟩
/-- a whole number rounded: its digits moved to the left end -/
theorem nrmR {A : Nat} (hA : 0 < A) (hA2 : A < 2 ^ 53) (e : Int) (h1 : -1000 ≤ e) (h2 : e ≤ 900) : ∃ j : Nat, j ≤ 52 ∧ nz (A * 2 ^ j) (e - j) ∧ FP.Core.roundRatio FP.Core.b64 false A 1 e = .fin false (A * 2 ^ j) (e - j) := by
  have hne : A ≠ 0 := by omega
  have hk : A.log2 < 53 := (Nat.log2_lt hne).mpr hA2
  have hlo : 2 ^ A.log2 ≤ A := Nat.log2_self_le hne
  have hhi : A < 2 ^ (A.log2 + 1) := (Nat.log2_lt hne).mp (Nat.lt_succ_self _)
  have hz : nz (A * 2 ^ (52 - A.log2)) (e - ((52 - A.log2 : Nat) : Int)) := by
    refine ⟨?_, ?_, by omega, by omega⟩
    · calc 2 ^ 52 = 2 ^ A.log2 * 2 ^ (52 - A.log2) := by rw [← Nat.pow_add]; congr 1; omega
        _ ≤ A * 2 ^ (52 - A.log2) := Nat.mul_le_mul_right _ hlo
    · calc A * 2 ^ (52 - A.log2) < 2 ^ (A.log2 + 1) * 2 ^ (52 - A.log2) := Nat.mul_lt_mul_of_pos_right hhi (Nat.two_pow_pos _)
        _ = 2 ^ 53 := by rw [← Nat.pow_add]; congr 1; omega
  refine ⟨52 - A.log2, by omega, hz, FP.Core.roundRatio_exact FP.Core.good_b64 (by decide) (nz_fits hz) ?_⟩
  rw [show (e - (e - ((52 - A.log2 : Nat) : Int))).toNat = 52 - A.log2 by omega, show (e - ((52 - A.log2 : Nat) : Int) - e).toNat = 0 by omega, Nat.mul_one, Nat.mul_one]
def nrm (c : Nat) (q : Int) : UInt64 := FP.Core.of64 (.fin false c q)
theorem nrm_val {c : Nat} {q : Int} (h : nz c q) : FP.Core.val64 (nrm c q) = .fin false c q := FP.Core.val64_of64 (nz_fits h)
theorem nrm_nat {c : Nat} {q : Int} (h : nz c q) : (nrm c q).toNat = (q + 1075).toNat * 2 ^ 52 + (c - 2 ^ 52) := by
  obtain ⟨h1, h2, h3, h4⟩ := h
  have hE : FP.Core.encode FP.Core.b64 (.fin false c q) = (q + 1075).toNat * 2 ^ 52 + (c - 2 ^ 52) := by
    unfold FP.Core.encode FP.Core.assemble
    dsimp only
    rw [t64, if_neg (by omega), q64, show (false : Bool).toNat = 0 from rfl, show (q - -1074).toNat + 1 = (q + 1075).toNat by omega, Nat.zero_mul, Nat.zero_add]
  unfold nrm FP.Core.of64
  rw [hE, UInt64.toNat_ofNat_of_lt' (show (q + 1075).toNat * 2 ^ 52 + (c - 2 ^ 52) < 2 ^ 64 by omega)]
theorem two_val : FP.Core.val64 4611686018427387904 = .fin false (2 ^ 52) (-51) := by decide +kernel
theorem big_val : FP.Core.val64 4841369599423283200 = .fin false (2 ^ 52) 0 := by decide +kernel
theorem nn_val {a : UInt64} (h : FP.Core.val64 a ≠ .nan) : mNN a := by
  have := (FP.Core.ne_nan a).mp h
  show a &&& 0x7fffffffffffffff ≤ 0x7ff0000000000000
  rw [UInt64.le_iff_toNat_le, FP.Core.mask_toNat]
  exact this
theorem half_nrm {c : Nat} {q : Int} (h : nz c q) (h2 : nz c (q - 1)) : FP.ddiv (nrm c q) 4611686018427387904 = nrm c (q - 1) := by
  show FP.Core.of64 (FP.Core.quotient FP.Core.b64 (FP.Core.val64 (nrm c q)) (FP.Core.val64 4611686018427387904)) = _
  rw [nrm_val h, two_val]
  unfold FP.Core.quotient
  dsimp only
  rw [if_neg (by decide), show (false != false) = false from rfl, FP.Core.roundRatio_exact FP.Core.good_b64 (by decide) (nz_fits h2) (by rw [show (q - -51 - (q - 1)).toNat = 52 by omega, show (q - 1 - (q - -51)).toNat = 0 by omega, Nat.pow_zero, Nat.mul_one])]
  rfl
theorem twice_nrm {c : Nat} {q : Int} (h : nz c q) (h2 : nz c (q + 1)) : FP.dmul (nrm c q) 4611686018427387904 = nrm c (q + 1) := by
  show FP.Core.of64 (FP.Core.round FP.Core.b64 (FP.Core.exactProduct (FP.Core.val64 (nrm c q)) (FP.Core.val64 4611686018427387904))) = _
  rw [nrm_val h, two_val]
  unfold FP.Core.exactProduct FP.Core.round
  dsimp only
  rw [show (false != false) = false from rfl, FP.Core.roundRatio_exact FP.Core.good_b64 (by decide) (nz_fits h2) (by rw [show (q + -51 - (q + 1)).toNat = 0 by omega, show (q + 1 - (q + -51)).toNat = 52 by omega, Nat.pow_zero, Nat.mul_one, Nat.mul_one])]
  rfl
theorem nrm_nn {c : Nat} {q : Int} (h : nz c q) : FP.Core.val64 (nrm c q) ≠ .nan := by rw [nrm_val h]; exact fun z => by cases z
/-- the mean's double -/
theorem quo_nrm {a n : Int32} (ha : 1 ≤ a.toInt ∧ a.toInt ≤ 11988) (hn : 3 ≤ n.toInt ∧ n.toInt ≤ 12) : ∃ c q, nz c q ∧ FP.ddiv (FP.i2d a) (FP.i2d n) = nrm c q := by
  have hval : ∀ x : Int32, 1 ≤ x.toInt ∧ x.toInt ≤ 11988 → ∃ j : Nat, j ≤ 52 ∧ nz (x.toInt.toNat * 2 ^ j) (0 - (j : Int)) ∧ FP.Core.val64 (FP.i2d x) = .fin false (x.toInt.toNat * 2 ^ j) (0 - (j : Int)) := fun x hx => by
    obtain ⟨j, j1, j2, j3⟩ := nrmR (A := x.toInt.toNat) (by omega) (by omega) 0 (by decide) (by decide)
    refine ⟨j, j1, j2, ?_⟩
    show FP.Core.val64 (FP.Core.i2d x) = _
    rw [FP.Core.val64_i2d]
    unfold FP.Core.ofInt FP.Core.round
    dsimp only
    rw [show decide (x.toInt < 0) = false from decide_eq_false (by omega), show x.toInt.natAbs = x.toInt.toNat by omega]
    exact j3
  obtain ⟨j, j1, j2, j3⟩ := hval a ha
  obtain ⟨i, i1, i2, i3⟩ := hval n ⟨by omega, by omega⟩
  have hi0 : 0 < n.toInt.toNat * 2 ^ i := by have := i2.1; omega
  have hq : FP.Core.val64 (FP.ddiv (FP.i2d a) (FP.i2d n)) = FP.Core.roundRatio FP.Core.b64 false (a.toInt.toNat * 2 ^ j) (n.toInt.toNat * 2 ^ i) (0 - (j : Int) - (0 - (i : Int))) := by
    show FP.Core.val64 (FP.Core.ddiv (FP.Core.i2d a) (FP.Core.i2d n)) = _
    rw [FP.Core.val64_ddiv, show FP.Core.val64 (FP.Core.i2d a) = _ from j3, show FP.Core.val64 (FP.Core.i2d n) = _ from i3]
    unfold FP.Core.quotient
    dsimp only
    rw [if_neg (by omega)]
    rfl
  have hpw : (0 - (j : Int) - (0 - (i : Int)) - -1074).toNat = 1074 + i - j := by omega
  have hin : FP.Core.inUnits (a.toInt.toNat * 2 ^ j) (0 - (j : Int) - (0 - (i : Int))) (-1074) = a.toInt.toNat * 2 ^ i * 2 ^ 1074 := by
    unfold FP.Core.inUnits
    rw [hpw, Nat.mul_assoc, ← Nat.pow_add, Nat.mul_assoc, ← Nat.pow_add]
    congr 2
    omega
  have hz : ∀ q : Int, -1074 ≤ q → FP.Core.zmag FP.Core.b64 (.fin false (2 ^ 52) q) = 2 ^ 52 * 2 ^ (q + 1074).toNat := fun q hq => by
    show FP.Core.inUnits (2 ^ 52) q FP.Core.b64.qmin = _
    rw [q64]
    unfold FP.Core.inUnits
    rw [show (q - -1074).toNat = (q + 1074).toNat by omega]
  have hge := FP.Core.zmag_roundRatio_ge FP.Core.good_b64 (s := false) (A := a.toInt.toNat * 2 ^ j) (B := n.toInt.toNat * 2 ^ i) (e := 0 - (j : Int) - (0 - (i : Int))) (e0 := -1074) (V := .fin false (2 ^ 52) (-56)) hi0 (nz_fits ⟨by decide, by decide, by decide, by decide⟩) (by rw [q64]; decide) (by omega) (by
    rw [hin, q64, hz _ (by decide), show (-1074 - -1074 : Int).toNat = 0 from rfl, Nat.pow_zero, Nat.mul_one, show ((-56 : Int) + 1074).toNat = 1018 from rfl, ← Nat.pow_add, show 52 + 1018 = 1070 from rfl, show (1074 : Nat) = 4 + 1070 from rfl, Nat.pow_add 2 4 1070, ← Nat.mul_assoc, Nat.mul_comm (2 ^ 1070)]
    generalize (2 : Nat) ^ 1070 = P
    calc n.toInt.toNat * P * 2 ^ i = n.toInt.toNat * (P * 2 ^ i) := Nat.mul_assoc _ _ _
      _ ≤ a.toInt.toNat * 2 ^ 4 * (P * 2 ^ i) := Nat.mul_le_mul_right _ (by omega)
      _ = a.toInt.toNat * 2 ^ i * (2 ^ 4 * P) := by ac_rfl)
  have hle := FP.Core.zmag_roundRatio_le FP.Core.good_b64 (s := false) (A := a.toInt.toNat * 2 ^ j) (B := n.toInt.toNat * 2 ^ i) (e := 0 - (j : Int) - (0 - (i : Int))) (e0 := -1074) (V := .fin false (2 ^ 52) (-40)) hi0 (nz_fits ⟨by decide, by decide, by decide, by decide⟩) (fun z => by cases z) (by rw [q64]; decide) (by omega) (by
    rw [hin, q64, hz _ (by decide), show (-1074 - -1074 : Int).toNat = 0 from rfl, Nat.pow_zero, Nat.mul_one, show ((-40 : Int) + 1074).toNat = 1034 from rfl, ← Nat.pow_add, show 52 + 1034 = 12 + 1074 from rfl, Nat.pow_add 2 12 1074, Nat.mul_right_comm (2 ^ 12)]
    generalize (2 : Nat) ^ 1074 = P
    refine Nat.mul_le_mul_right P ?_
    rw [← Nat.mul_assoc]
    exact Nat.mul_le_mul_right _ (by omega))
  rw [hz _ (by decide)] at hge hle
  have hfit := FP.Core.roundRatio_fits FP.Core.good_b64 false (a.toInt.toNat * 2 ^ j) hi0 (0 - (j : Int) - (0 - (i : Int)))
  have hsgn := FP.Core.sgn_roundRatio FP.Core.b64 false (a.toInt.toNat * 2 ^ j) (n.toInt.toNat * 2 ^ i) (0 - (j : Int) - (0 - (i : Int)))
  rw [← hq] at hge hle hfit hsgn
  have hnn : FP.Core.val64 (FP.ddiv (FP.i2d a) (FP.i2d n)) ≠ .nan := by rw [hq]; exact FP.Core.roundRatio_ne_nan _ _ _ _ _
  cases hv : FP.Core.val64 (FP.ddiv (FP.i2d a) (FP.i2d n)) with
  | nan => exact absurd hv hnn
  | inf s =>
    rw [hv] at hle
    have e1 : FP.Core.zmag FP.Core.b64 (.inf s) = FP.Core.b64.tails * 2 ^ (FP.Core.b64.exps - 2) := rfl
    rw [e1, t64] at hle
    have h3 := Nat.le_of_mul_le_mul_left hle (Nat.two_pow_pos 52)
    have h4 := (Nat.pow_le_pow_iff_right (show 1 < 2 by decide)).mp h3
    have h5 : FP.Core.b64.exps - 2 = 2046 := by decide
    have h6 : ((-40 : Int) + 1074).toNat = 1034 := rfl
    omega
  | fin s c q =>
    rw [hv] at hge hfit hsgn
    have hs : s = false := hsgn
    subst hs
    obtain ⟨f1, f2, f3, f4⟩ := hfit
    rw [p64] at f1
    rw [q64] at f2 f4
    rw [qx64] at f3
    rw [t64] at f4
    have hc : 2 ^ 52 ≤ c := by
      rcases f4 with g | g
      · have h1 := hge
        rw [show FP.Core.zmag FP.Core.b64 (.fin false c q) = FP.Core.inUnits c q FP.Core.b64.qmin from rfl, q64, g] at h1
        unfold FP.Core.inUnits at h1
        rw [show (-1074 - -1074 : Int).toNat = 0 from rfl, Nat.pow_zero, Nat.mul_one c] at h1
        exact Nat.le_trans (Nat.le_mul_of_pos_right _ (Nat.two_pow_pos _)) h1
      · exact g
    refine ⟨c, q, ⟨hc, f1, f2, f3⟩, ?_⟩
    rw [← FP.Core.of64_val64 hnn, hv]
    rfl
theorem zero_quo : ∀ n : Fin 13, 3 ≤ n.1 → FP.ddiv (FP.i2d 0) (FP.i2d (nI n.1)) = 0 := by decide +kernel
theorem mean_d {z : mR} (hi : rInv z) : mNN (FP.ddiv (FP.i2d (rSum z)) (FP.i2d (nI (rN z)))) ∧ Op.cmpValue (FP.dcmp (FP.ddiv (FP.i2d (rSum z)) (FP.i2d (nI (rN z)))) (FP.ddiv (FP.i2d (rSum z)) (FP.i2d (nI (rN z))))) .l = 0 := by
  have hn := hi.n
  have hs : 0 ≤ (rSum z).toInt ∧ (rSum z).toInt ≤ (rN z : Int) * 999 := sumI_bd (fun s hs => (hi.seg hs).2.2) (by omega) (by decide)
  by_cases e : rSum z = 0
  · rw [e, zero_quo ⟨rN z, by omega⟩ hn.1]
    exact ⟨by decide, by decide +kernel⟩
  · have e' : (rSum z).toInt ≠ 0 := fun q => e (by rw [jA_eq, q]; rfl)
    obtain ⟨c, q, h1, h2⟩ := quo_nrm (a := rSum z) (n := nI (rN z)) (by omega) (by rw [jA_n (by omega)]; omega)
    rw [h2]
    refine ⟨nn_val (nrm_nn h1), ?_⟩
    rw [show FP.dcmp (nrm c q) (nrm c q) = some .eq from FP.Core.dcmp_self (nrm_nn h1)]
    rfl
theorem one_nrm {c : Nat} {q : Int} (h : nz c q) : FP.dmul FP.dconst1 (nrm c q) = nrm c q := by
  show FP.Core.of64 (FP.Core.round FP.Core.b64 (FP.Core.exactProduct (FP.Core.val64 FP.Core.dconst1) (FP.Core.val64 (nrm c q)))) = _
  rw [nrm_val h, FP.Core.val64_dconst1]
  unfold FP.Core.exactProduct FP.Core.round
  dsimp only
  rw [show (false != false) = false from rfl, FP.Core.roundRatio_exact FP.Core.good_b64 (by decide) (nz_fits h) (by rw [show (-52 + q - q).toNat = 0 by omega, show (q - (-52 + q)).toNat = 52 by omega, Nat.pow_zero, Nat.mul_one, Nat.mul_one, Nat.mul_comm])]
  rfl
theorem one_zero : FP.dmul FP.dconst1 (FP.i2d 0) = FP.i2d 0 ∧ mNN (FP.i2d 0) := by
  constructor
  · decide +kernel
  · decide
theorem one_i2d {a : Int32} (ha : 0 ≤ a.toInt ∧ a.toInt ≤ 11988) : FP.dmul FP.dconst1 (FP.i2d a) = FP.i2d a ∧ mNN (FP.i2d a) := by
  by_cases e : a = 0
  · rw [e]; exact one_zero
  · have e' : a.toInt ≠ 0 := fun q => e (by rw [jA_eq, q]; rfl)
    obtain ⟨j, j1, j2, j3⟩ := nrmR (A := a.toInt.toNat) (by omega) (by omega) 0 (by decide) (by decide)
    have hv : FP.Core.val64 (FP.i2d a) = .fin false (a.toInt.toNat * 2 ^ j) (0 - (j : Int)) := by
      show FP.Core.val64 (FP.Core.i2d a) = _
      rw [FP.Core.val64_i2d]
      unfold FP.Core.ofInt FP.Core.round
      dsimp only
      rw [show decide (a.toInt < 0) = false from decide_eq_false (by omega), show a.toInt.natAbs = a.toInt.toNat by omega]
      exact j3
    have hb : FP.i2d a = nrm (a.toInt.toNat * 2 ^ j) (0 - (j : Int)) := by
      have := FP.Core.of64_val64 (a := FP.i2d a) (by rw [hv]; exact fun z => by cases z)
      rw [hv] at this
      exact this.symm
    rw [hb]
    exact ⟨one_nrm j2, nn_val (nrm_nn j2)⟩
