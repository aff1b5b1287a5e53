/-! the reference's readers, on rows -/
theorem rInv.n {z : mR} (h : rInv z) : 3 ≤ rN z ∧ rN z ≤ 12 := ⟨h.1.1, h.1.2.1⟩
theorem rInv.m {z : mR} (h : rInv z) : rM z ≤ 4 := h.1.2.2
theorem rInv.zn {z : mR} (h : rInv z) : z 72 = nI (rN z) := h.2.1
theorem rInv.zm {z : mR} (h : rInv z) : z 73 = nI (rM z) := h.2.2.1
theorem rInv.seg {z : mR} (h : rInv z) {s : Nat} (hs : s < rN z) : (z (3 * s + 1) = 0 ∨ z (3 * s + 1) = 1) ∧ (0 ≤ (z (3 * s)).toInt ∧ (z (3 * s)).toInt ≤ 9) ∧ 0 ≤ (z (3 * s + 2)).toInt ∧ (z (3 * s + 2)).toInt ≤ 999 := h.2.2.2.2.2.1 s hs
theorem rInv.tr {z : mR} (h : rInv z) {t : Nat} (ht : t < rM z) : (1 ≤ (z (36 + 9 * t + 0)).toInt ∧ (z (36 + 9 * t + 0)).toInt ≤ 6) ∧ (1 ≤ (z (36 + 9 * t + 1)).toInt ∧ (z (36 + 9 * t + 1)).toInt ≤ 20) ∧ (0 ≤ (z (36 + 9 * t + 2)).toInt ∧ (z (36 + 9 * t + 2)).toInt ≤ 120) ∧ (rPl z t < rN z ∧ z (36 + 9 * t + 3) = nI (rPl z t)) ∧ (z (36 + 9 * t + 4) = 0 ∨ z (36 + 9 * t + 4) = 1) := h.2.2.2.2.2.2 t ht
theorem rInv.set {z : mR} (h : rInv z) : (10 ≤ (z 75).toInt ∧ (z 75).toInt ≤ 900) ∧ (1 ≤ (z 76).toInt ∧ (z 76).toInt ≤ 50) ∧ (z 77 = 0 ∨ z 77 = 1 ∨ z 77 = 2) := h.2.2.2.1
theorem eTrIn (G : mM) {z : mR} (hi : rInv z) (x : Int32) : x6_trainsIn x (sr G z) = some (rTrIn z x) := by
  have hb := hi.m
  unfold x6_trainsIn
  have h := lpV (fun n w i => x6_trainsIn_L4 x n w i (sr G z)) id (fun i => sumI (fun t => if z (36 + 9 * t + 3) = x then 1 else 0) i) (rM z) (by omega) (fun n i hn => ?_) (fun n => ?_)
  · rw [show x6_trainsIn_L4 x mFu 0 0 (sr G z) = some (sumI (fun t => if z (36 + 9 * t + 3) = x then 1 else 0) (rM z)) from h, bs]
    rfl
  · show x6_trainsIn_L4 x (n + 1) _ (nI i) (sr G z) = x6_trainsIn_L4 x n _ (nI (i + 1)) (sr G z)
    rw [x6_trainsIn_L4, sr_247, hi.zm, if_neg (fun q => by have := (jA_nle (by omega) (by omega)).mp q; omega)]
    rw [oF3 G z (by omega), bs, sumI]
    by_cases h2 : z (36 + 9 * i + 3) = x
    · rw [if_pos h2, if_pos h2, mNm_e, mNm_e, jA_1]
    · rw [if_neg h2, if_neg h2, mNm_e, mNm_e, jA_1]
  · show x6_trainsIn_L4 x (n + 1) _ (nI (rM z)) (sr G z) = _
    rw [x6_trainsIn_L4, sr_247, hi.zm, if_pos ((jA_nle (by omega) (by omega)).mpr (Nat.le_refl _))]
    rfl

theorem eW (G : mM) (z : mR) {t : Nat} (h : t < 5) : x6_weight (nI t) (sr G z) = some (rW z t) := by
  unfold x6_weight
  rw [oF0 G z h, bs, oF2 G z h, bs]
  rfl
theorem eWanted (G : mM) (z : mR) {t : Nat} (h : t < 5) : x6_wanted (nI t) (sr G z) = some (z (36 + 9 * t + 0) * z (36 + 9 * t + 1)) := by
  unfold x6_wanted
  rw [oF0 G z h, bs, oF1 G z h, bs]
theorem eWIn (G : mM) {z : mR} (hi : rInv z) (x : Int32) : x6_weightIn x (sr G z) = some (rWIns z x) := by
  have hb := hi.m
  unfold x6_weightIn
  have h := lpV (fun n w i => x6_weightIn_L4 x n w i (sr G z)) id (fun i => sumI (fun t => if z (36 + 9 * t + 3) = x then rW z t else 0) i) (rM z) (by omega) (fun n i hn => ?_) (fun n => ?_)
  · rw [show x6_weightIn_L4 x mFu 0 0 (sr G z) = some (sumI (fun t => if z (36 + 9 * t + 3) = x then rW z t else 0) (rM z)) from h, bs]
    rfl
  · show x6_weightIn_L4 x (n + 1) _ (nI i) (sr G z) = x6_weightIn_L4 x n _ (nI (i + 1)) (sr G z)
    rw [x6_weightIn_L4, sr_247, hi.zm, if_neg (fun q => by have := (jA_nle (by omega) (by omega)).mp q; omega)]
    rw [oF3 G z (by omega), bs, sumI]
    by_cases h2 : z (36 + 9 * i + 3) = x
    · rw [if_pos h2, if_pos h2, eW G z (by omega), bs, mNm_e, mNm_e, jA_1]
    · rw [if_neg h2, if_neg h2, mNm_e, mNm_e, jA_1]
  · show x6_weightIn_L4 x (n + 1) _ (nI (rM z)) (sr G z) = _
    rw [x6_weightIn_L4, sr_247, hi.zm, if_pos ((jA_nle (by omega) (by omega)).mpr (Nat.le_refl _))]
    rfl

theorem ePeat (G : mM) {z : mR} (hi : rInv z) : x6_peatInTrains (sr G z) = some (rPeat z) := by
  have hb := hi.m
  unfold x6_peatInTrains
  have h := lpV (fun n w i => x6_peatInTrains_L4 n w i (sr G z)) id (fun i => sumI (fun t => z (36 + 9 * t + 2)) i) (rM z) (by omega) (fun n i hn => ?_) (fun n => ?_)
  · rw [show x6_peatInTrains_L4 mFu 0 0 (sr G z) = some (sumI (fun t => z (36 + 9 * t + 2)) (rM z)) from h, bs]
    rfl
  · show x6_peatInTrains_L4 (n + 1) _ (nI i) (sr G z) = x6_peatInTrains_L4 n _ (nI (i + 1)) (sr G z)
    rw [x6_peatInTrains_L4, sr_247, hi.zm, if_neg (fun q => by have := (jA_nle (by omega) (by omega)).mp q; omega)]
    rw [oF2 G z (by omega), bs, sumI, mNm_e, mNm_e, jA_1]
  · show x6_peatInTrains_L4 (n + 1) _ (nI (rM z)) (sr G z) = _
    rw [x6_peatInTrains_L4, sr_247, hi.zm, if_pos ((jA_nle (by omega) (by omega)).mpr (Nat.le_refl _))]
    rfl

theorem eWaits (G : mM) {z : mR} (hi : rInv z) : x6_allWaits (sr G z) = some (rWaits z) := by
  have hb := hi.m
  unfold x6_allWaits
  have h := lpV (fun n w i => x6_allWaits_L4 n w i (sr G z)) id (fun i => sumI (fun t => z (36 + 9 * t + 7)) i) (rM z) (by omega) (fun n i hn => ?_) (fun n => ?_)
  · rw [show x6_allWaits_L4 mFu 0 0 (sr G z) = some (sumI (fun t => z (36 + 9 * t + 7)) (rM z)) from h, bs]
    rfl
  · show x6_allWaits_L4 (n + 1) _ (nI i) (sr G z) = x6_allWaits_L4 n _ (nI (i + 1)) (sr G z)
    rw [x6_allWaits_L4, sr_247, hi.zm, if_neg (fun q => by have := (jA_nle (by omega) (by omega)).mp q; omega)]
    rw [oF7 G z (by omega), bs, sumI, mNm_e, mNm_e, jA_1]
  · show x6_allWaits_L4 (n + 1) _ (nI (rM z)) (sr G z) = _
    rw [x6_allWaits_L4, sr_247, hi.zm, if_pos ((jA_nle (by omega) (by omega)).mpr (Nat.le_refl _))]
    rfl

theorem eDeep (G : mM) {z : mR} (hi : rInv z) : x6_deepest (sr G z) = some (rDeep z) := by
  have hb := hi.n.2
  unfold x6_deepest
  have h := lpV (fun n w i => x6_deepest_L4 n w i (sr G z)) id (fun i => mxI (fun s => z (3 * s + 2)) i) (rN z) (by omega) (fun n i hn => ?_) (fun n => ?_)
  · rw [show x6_deepest_L4 mFu 0 0 (sr G z) = some (mxI (fun s => z (3 * s + 2)) (rN z)) from h, bs]
    rfl
  · show x6_deepest_L4 (n + 1) _ (nI i) (sr G z) = x6_deepest_L4 n _ (nI (i + 1)) (sr G z)
    rw [x6_deepest_L4, sr_247, hi.zn, if_neg (fun q => by have := (jA_nle (by omega) (by omega)).mp q; omega)]
    rw [sF2 G z (by omega), bs, mxI]
    by_cases h2 : z (3 * i + 2) ≤ mxI (fun s => z (3 * s + 2)) i
    · rw [if_pos h2, if_neg (fun q => by rw [jA_lt] at q; rw [jA_le] at h2; omega), mNm_e, jA_1]
    · rw [if_neg h2, if_pos (by rw [jA_lt]; rw [jA_le] at h2; omega), bs, mNm_e, jA_1]
  · show x6_deepest_L4 (n + 1) _ (nI (rN z)) (sr G z) = _
    rw [x6_deepest_L4, sr_247, hi.zn, if_pos ((jA_nle (by omega) (by omega)).mpr (Nat.le_refl _))]
    rfl

theorem eSunk (G : mM) {z : mR} (hi : rInv z) : x6_tooDeep (sr G z) = some (rSunk z) := by
  have hb := hi.n.2
  unfold x6_tooDeep
  have h := lpV (fun n w i => x6_tooDeep_L4 n w i (sr G z)) id (fun i => orI (fun s => if z (3 * s + 2) ≤ z 75 then 0 else 1 <<< (nI s &&& 31)) i) (rN z) (by omega) (fun n i hn => ?_) (fun n => ?_)
  · rw [show x6_tooDeep_L4 mFu 0 0 (sr G z) = some (orI (fun s => if z (3 * s + 2) ≤ z 75 then 0 else 1 <<< (nI s &&& 31)) (rN z)) from h, bs]
    rfl
  · show x6_tooDeep_L4 (n + 1) _ (nI i) (sr G z) = x6_tooDeep_L4 n _ (nI (i + 1)) (sr G z)
    rw [x6_tooDeep_L4, sr_247, hi.zn, if_neg (fun q => by have := (jA_nle (by omega) (by omega)).mp q; omega)]
    rw [sF2 G z (by omega), bs, oT0 G z, bs, orI]
    by_cases h2 : z (3 * i + 2) ≤ z 75
    · rw [if_pos h2, if_pos h2, mNm_e, mNm_e, jA_1]
    · rw [if_neg h2, if_neg h2, mNm_e, mNm_e, jA_1]
  · show x6_tooDeep_L4 (n + 1) _ (nI (rN z)) (sr G z) = _
    rw [x6_tooDeep_L4, sr_247, hi.zn, if_pos ((jA_nle (by omega) (by omega)).mpr (Nat.le_refl _))]
    rfl

theorem eBtwL (G : mM) {z : mR} (hi : rInv z) (up : Int32) (lo hi2 : Nat) : x6_between_L30 up (nI lo) (nI hi2) mFu 0 0 (sr G z) = some (rBtw z lo hi2 up) := by
  have hb := hi.m
  have h := lpV (fun n w i => x6_between_L30 up (nI lo) (nI hi2) n w i (sr G z)) id (fun i => sumI (fun t => if z (36 + 9 * t + 3) ≤ nI lo then 0 else if nI hi2 ≤ z (36 + 9 * t + 3) then 0 else if z (36 + 9 * t + 4) = up then 1 else 0) i) (rM z) (by omega) (fun n i hn => ?_) (fun n => ?_)
  · exact h
  · show x6_between_L30 up (nI lo) (nI hi2) (n + 1) _ (nI i) (sr G z) = x6_between_L30 up (nI lo) (nI hi2) n _ (nI (i + 1)) (sr G z)
    rw [x6_between_L30, sr_247, hi.zm, if_neg (fun q => by have := (jA_nle (by omega) (by omega)).mp q; omega), oF3 G z (by omega), bs, sumI]
    by_cases h1 : z (36 + 9 * i + 3) ≤ nI lo
    · rw [if_pos h1, if_pos h1, mNm_e, mNm_e, jA_1]
    · rw [if_neg h1, if_neg h1, bs]
      by_cases h2 : nI hi2 ≤ z (36 + 9 * i + 3)
      · rw [if_pos h2, if_pos h2, mNm_e, mNm_e, jA_1]
      · rw [if_neg h2, if_neg h2, oF4 G z (by omega), bs]
        by_cases h3 : z (36 + 9 * i + 4) = up
        · rw [if_pos h3, if_pos h3, mNm_e, mNm_e, jA_1]
        · rw [if_neg h3, if_neg h3, mNm_e, mNm_e, jA_1]
  · show x6_between_L30 up (nI lo) (nI hi2) (n + 1) _ (nI (rM z)) (sr G z) = _
    rw [x6_between_L30, sr_247, hi.zm, if_pos ((jA_nle (by omega) (by omega)).mpr (Nat.le_refl _))]
    rfl
theorem eBtw (G : mM) {z : mR} (hi : rInv z) (up : Int32) {p f : Nat} (hp : p < 100) (hf : f < 100) : x6_between (nI p) (nI f) up (sr G z) = some (rBtw z (min p f) (max p f) up) := by
  unfold x6_between
  by_cases h : f ≤ p
  · have h1 : nI f ≤ nI p := (jA_nle (by omega) (by omega)).mpr h
    rw [if_pos h1, if_pos h1, eBtwL G hi, bs, Nat.min_eq_right h, Nat.max_eq_left h]
  · have h1 : ¬ nI f ≤ nI p := fun q => h ((jA_nle (by omega) (by omega)).mp q)
    rw [if_neg h1, if_neg h1, eBtwL G hi, bs, Nat.min_eq_left (by omega), Nat.max_eq_right (by omega)]
theorem eEnd (G : mM) {z : mR} (hi : rInv z) {s : Nat} (hs : s < 100) : x6_isEnd (nI s) (sr G z) = some (if rEnd z s then 1 else 0) := by
  have hn := hi.n
  unfold x6_isEnd
  rw [sr_247, hi.zn]
  by_cases h0 : s = 0
  · subst h0
    rw [if_pos (show nI 0 = (0 : Int32) from rfl), if_pos (Or.inl rfl)]
  · rw [if_neg (show ¬ nI s = (0 : Int32) from fun q => h0 ((jA_neq (b := 0) (by omega) (by decide)).mp q)), show nI (rN z) - (1 : Int32) = nI (rN z - 1) from pk_sub (a := rN z) (b := 1) (by omega)]
    by_cases h1 : s + 1 = rN z
    · rw [if_pos ((jA_neq (by omega) (by omega)).mpr (by omega)), if_pos (Or.inr h1)]
    · rw [if_neg (fun q => h1 (by have := (jA_neq (by omega) (by omega)).mp q; omega)), if_neg (fun q => q.elim h0 h1)]
theorem ePs (G : mM) (z : mR) {s : Nat} (hs : s < 27) : x6_isPassing (nI s) (sr G z) = some (if rPs z s then 1 else 0) := by
  unfold x6_isPassing
  rw [sF1 G z hs, bs]
  by_cases h : z (3 * s + 1) = 1
  · rw [if_pos h, if_pos h]
  · rw [if_neg h, if_neg h]
theorem one_ne : ¬ (1 : Int32) = 0 := by decide
theorem eRoom (G : mM) {z : mR} (hi : rInv z) {s : Nat} (hs : s < 27) : x6_room (nI s) (sr G z) = some (rRoom z s) := by
  unfold x6_room rRoom
  rw [eEnd G hi (by omega), bs]
  by_cases h : rEnd z s
  · rw [if_pos h, if_pos h, if_neg one_ne]
  · rw [if_neg h, if_neg h, if_pos rfl, ePs G z hs, bs]
    by_cases h2 : rPs z s
    · rw [if_pos h2, if_pos h2, if_neg one_ne]
    · rw [if_neg h2, if_neg h2, if_pos rfl]

