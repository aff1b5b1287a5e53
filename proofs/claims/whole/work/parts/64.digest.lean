/-! meanSinking, digest -/
theorem eSumL (G : mM) {z : mR} (hi : rInv z) : x6_meanSinking_L4 mFu 0 0 (sr G z) = some (rSum z) := by
  have hb := hi.n.2
  have h := lpV (fun n w i => x6_meanSinking_L4 n w i (sr G z)) id (fun i => sumI (fun s => z (3 * s + 2)) i) (rN z) (by omega) (fun n i hn => ?_) (fun n => ?_)
  · exact h
  · show x6_meanSinking_L4 (n + 1) _ (nI i) (sr G z) = x6_meanSinking_L4 n _ (nI (i + 1)) (sr G z)
    rw [x6_meanSinking_L4, sr_247, hi.zn, if_neg (fun q => by have := (jA_nle (by omega) (by omega)).mp q; omega)]
    rw [sF2 G z (by omega), bs, sumI, mNm_e, mNm_e, jA_1]
  · show x6_meanSinking_L4 (n + 1) _ (nI (rN z)) (sr G z) = _
    rw [x6_meanSinking_L4, sr_247, hi.zn, if_pos ((jA_nle (by omega) (by omega)).mpr (Nat.le_refl _))]
    rfl
theorem zero_quo : ∀ n : Fin 13, 3 ≤ n.1 → FP.ddiv (FP.i2d 0) (FP.i2d (nI n.1)) = 0 := by decide +kernel
theorem zero_bits (G : mM) : x5_bitsOf 0 G = some 0 := by
  unfold x5_bitsOf
  rw [if_neg (by decide +kernel)]
theorem mean_d {z : mR} (hi : rInv z) : mNN (FP.ddiv (FP.i2d (rSum z)) (FP.i2d (nI (rN z)))) ∧ Op.cmpValue (FP.dcmp (FP.ddiv (FP.i2d (rSum z)) (FP.i2d (nI (rN z)))) (FP.ddiv (FP.i2d (rSum z)) (FP.i2d (nI (rN z))))) .l = 0 ∧ ∀ G, x5_bitsOf (FP.ddiv (FP.i2d (rSum z)) (FP.i2d (nI (rN z)))) G = some (FP.ddiv (FP.i2d (rSum z)) (FP.i2d (nI (rN z)))).toInt64 := by
  have hn := hi.n
  have hs : 0 ≤ (rSum z).toInt ∧ (rSum z).toInt ≤ (rN z : Int) * 999 := sumI_bd (fun s hs => (hi.seg hs).2.2) (by omega) (by decide)
  by_cases e : rSum z = 0
  · rw [e, zero_quo ⟨rN z, by omega⟩ hn.1]
    exact ⟨by decide, by decide +kernel, zero_bits⟩
  · have e' : (rSum z).toInt ≠ 0 := fun q => e (by rw [jA_eq, q]; rfl)
    obtain ⟨c, q, h1, h2⟩ := quo_nrm (a := rSum z) (n := nI (rN z)) (by omega) (by rw [jA_n (by omega)]; omega)
    rw [h2]
    refine ⟨nn_val (nrm_nn h1), ?_, fun G => bitsB G h1⟩
    rw [show FP.dcmp (nrm c q) (nrm c q) = some .eq from FP.Core.dcmp_self (nrm_nn h1)]
    rfl
theorem rd_mean {A : mM} (G : mM) {z : mR} (h : Rs A 0 z) (hi : rInv z) : x5_meanSinking A = some (FP.ddiv (FP.i2d (rSum z)) (FP.i2d (nI (rN z)))) ∧ x6_meanSinking (sr G z) = some (FP.ddiv (FP.i2d (rSum z)) (FP.i2d (nI (rN z)))) := by
  have hn := hi.n
  obtain ⟨m1, -, -⟩ := mean_d hi
  constructor
  · unfold x5_meanSinking
    rw [h.n hi, if_pos (show (1 : Int32) ≤ nI (rN z) from (jA_nle (a := 1) (by decide) (by omega)).mpr (by omega)), sSum h hi, bs, mCk_t m1]
  · unfold x6_meanSinking
    rw [eSumL _ hi, bs, z72 _ hi, mCk_t m1]
def hF (v : Nat → Int64) (w : Int64) : Nat → Int64
  | 0 => w
  | n + 1 => 31 * hF v w n + v n
def gv : Option Int32 → Int64
  | some r => r.toInt64
  | none => 0
def HM (B M : mM) (w : Int64) : Prop := M 247 = B 247 ∧ (∀ d, d ≠ 246 → d ≠ 247 → d ≠ 248 → M d = B d) ∧ (∀ j, j < 10 → M 246 j = B 246 j) ∧ mLong (M 246 10) (M 246 11) = w
theorem HM.mix {B M : mM} {w : Int64} (h : HM B M w) (x : Int64) : ∃ M', x6_mix x M = some M' ∧ HM B M' (31 * w + x) := by
  obtain ⟨h1, h2, h3, h4⟩ := h
  unfold x6_mix
  rw [mNm_e, h4]
  exact ⟨_, rfl, by rw [upL_other (by decide)]; exact h1, fun d a b c => by rw [upL_other a]; exact h2 d a b c, fun j hj => by rw [upL_ne hj]; exact h3 j hj, upL_long _ _ _⟩
theorem HM.eqs {B M : mM} {w : Int64} (h : HM B M w) : M = sr M (B 247) := by rw [← h.1, sr_id]
theorem HM.rel {k : Nat} {A B M : mM} {w : Int64} (h : Rel k A B) (hM : HM B M w) : Rel k A M := by
  obtain ⟨h1, h2, h3, h4⟩ := hM
  have r1 : Rel k A (fun d => if d = 246 then B 246 else M d) := by
    refine h.trial oTr.rf (fun d hd => ?_) (h.2.1 1 (by decide))
    by_cases e : d = 246
    · rw [if_pos e, e]
    · rw [if_neg e]
      by_cases e7 : d = 247
      · rw [e7]; exact h1
      · exact h2 d e e7 hd
  have q6 : ∀ d, d ≠ 246 → M d = (fun d => if d = 246 then B 246 else M d) d := fun d hd => (if_neg hd).symm
  have q5 : (fun d => if d = 246 then B 246 else M d) 246 = B 246 := if_pos rfl
  refine r1.text (fun _ _ _ => rfl) (fun d d1 _ => q6 d d1) (by rw [h3 2 (by decide)]; exact (congrFun q5 2).symm) (by rw [h3 4 (by decide)]; exact (congrFun q5 4).symm) ?_
  obtain ⟨n, t1, t2, t3, t4⟩ := h.2.2.1
  exact ⟨n, t1, t2, (h3 6 (by decide)).trans t3, fun i hi => by rw [h2 251 (by decide) (by decide) (by decide)]; exact t4 i hi⟩
theorem HM.ahead {B M : mM} {w : Int64} (h : HM B M w) (hi : rInv (B 247)) {n : Nat} (hn : n < 1900) (x : Int32) : ∃ M', x6_ahead (nI n) x M = some (rAh (B 247) n x, M') ∧ HM B M' w := by
  obtain ⟨G1, a1, a2⟩ := eAhead M hi hn x
  rw [← h.eqs] at a1
  obtain ⟨h1, h2, h3, h4⟩ := h
  have e6 : sr G1 (B 247) 246 = M 246 := by rw [sr_o (by decide)]; exact a2 246 (by decide) (by decide)
  exact ⟨_, a1, sr_247 _ _, fun d d1 d2 d3 => by rw [sr_o d2, a2 d d2 d3]; exact h2 d d1 d2 d3, fun j hj => by rw [e6]; exact h3 j hj, by rw [e6]; exact h4⟩
