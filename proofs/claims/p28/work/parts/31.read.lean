/-! the class's readers -/
theorem tA {c : Nat} {G : mM} {m : Nat} (hm : G c 4 = nI m) (h4 : m ≤ 4) (x : Int32) : x3_trainAt c x G = some (if mIn x m then some (c + 16 + x.toNatClampNeg) else none) := by
  have h := @jA_in_iff x m
  unfold x3_trainAt
  rw [hm]
  by_cases h0 : x < 0
  · rw [if_pos h0, if_neg (fun q => by rw [jA_lt] at h0; have := (h.mp q).1; exact absurd h0 (by simpa using this))]
  · rw [if_neg h0]
    obtain ⟨j, hj, rfl⟩ := nI_of h0
    by_cases h1 : nI m ≤ nI j
    · rw [if_pos h1]
      rw [jA_nle (by omega) hj] at h1
      rw [if_neg (fun q => by have := (jA_in_iff.mp q).2; rw [jA_n hj] at this; omega)]
    · rw [if_neg h1]
      rw [jA_nle (by omega) hj] at h1
      rw [if_pos (show nI j < 4 from (jA_nlt (b := 4) hj (by decide)).mpr (by omega)), mCk_t (jA_in (by omega) (by decide)), if_pos (jA_in (by omega) (by omega))]
theorem tAn {c : Nat} {G : mM} {m : Nat} (hm : G c 4 = nI m) (h4 : m ≤ 4) {i : Nat} (hi : i < 2 ^ 31) : x3_trainAt c (nI i) G = some (if i < m then some (c + 16 + i) else none) := by
  by_cases h : i < m
  · rw [tA hm h4, if_pos h, if_pos (jA_in h (by omega)), jA_clamp hi]
  · rw [tA hm h4, if_neg h, if_neg (fun q => by have := (jA_in_iff.mp q).2; rw [jA_n hi] at this; omega)]
theorem sA {c : Nat} {G : mM} {m : Nat} (hm : G c 3 = nI m) (h4 : m ≤ 12) (x : Int32) : x3_segmentAt c x G = some (if mIn x m then some (c + 4 + x.toNatClampNeg) else none) := by
  have h := @jA_in_iff x m
  unfold x3_segmentAt
  rw [hm]
  by_cases h0 : x < 0
  · rw [if_pos h0, if_neg (fun q => by rw [jA_lt] at h0; have := (h.mp q).1; exact absurd h0 (by simpa using this))]
  · rw [if_neg h0]
    obtain ⟨j, hj, rfl⟩ := nI_of h0
    by_cases h1 : nI m ≤ nI j
    · rw [if_pos h1]
      rw [jA_nle (by omega) hj] at h1
      rw [if_neg (fun q => by have := (jA_in_iff.mp q).2; rw [jA_n hj] at this; omega)]
    · rw [if_neg h1]
      rw [jA_nle (by omega) hj] at h1
      rw [if_pos (show nI j < 12 from (jA_nlt (b := 12) hj (by decide)).mpr (by omega)), mCk_t (jA_in (by omega) (by decide)), if_pos (jA_in (by omega) (by omega))]
theorem sAn {c : Nat} {G : mM} {m : Nat} (hm : G c 3 = nI m) (h4 : m ≤ 12) {i : Nat} (hi : i < 2 ^ 31) : x3_segmentAt c (nI i) G = some (if i < m then some (c + 4 + i) else none) := by
  by_cases h : i < m
  · rw [sA hm h4, if_pos h, if_pos (jA_in h (by omega)), jA_clamp hi]
  · rw [sA hm h4, if_neg h, if_neg (fun q => by have := (jA_in_iff.mp q).2; rw [jA_n hi] at this; omega)]
/-- the class's loops over its trains and segments: the value at the index is that of the lesser of the index and the number -/
theorem mn_t {m i : Nat} (h : i < m) : min (i + 1) m = min i m + 1 ∧ min i m = i := by omega
theorem mn_f {m i : Nat} (h : ¬ i < m) : min (i + 1) m = min i m := by omega


theorem cTrIn {c : Nat} {G : mM} {m : Nat} (hm : G c 4 = nI m) (h4 : m ≤ 4) (x : Int32) : x3_trainsIn c x G = some (sumI (fun t => if G (c + 16 + t) 3 = x then 1 else 0) m) := by
  unfold x3_trainsIn
  have h := lpV (fun n w i => x3_trainsIn_L4 c x n w i G) id (fun i => sumI (fun t => if G (c + 16 + t) 3 = x then 1 else 0) (min i m)) 4 (by decide) (fun n i hi => ?_) (fun n => ?_)
  · have e : min 4 m = m := by omega
    rw [e] at h
    have h' : x3_trainsIn_L4 c x mFu 0 0 G = some (sumI (fun t => if G (c + 16 + t) 3 = x then 1 else 0) m) := by
      have e0 : min 0 m = 0 := by omega
      rw [e0] at h
      exact h
    rw [h', bs]
  · show x3_trainsIn_L4 c x (n + 1) _ (nI i) G = x3_trainsIn_L4 c x n _ (nI (i + 1)) G
    rw [x3_trainsIn_L4, if_neg (show ¬ (4 : Int32) ≤ nI i from fun q => by have := (jA_nle (a := 4) (by decide) (by omega)).mp q; omega), tAn hm h4 (by omega), bs]
    by_cases h : i < m
    · rw [if_pos h, mOs, (mn_t h).1, (mn_t h).2, sumI]
      by_cases h2 : G (c + 16 + i) 3 = x
      · rw [if_pos h2, if_pos h2, mNm_e, mNm_e, jA_1]
      · rw [if_neg h2, if_neg h2, mNm_e, jA_1, Int32.add_zero]
    · rw [if_neg h, mOn, mn_f h, mNm_e, jA_1]
  · show x3_trainsIn_L4 c x (n + 1) _ (nI 4) G = _
    rw [x3_trainsIn_L4, if_pos (show (4 : Int32) ≤ nI 4 from (jA_nle (a := 4) (by decide) (by decide)).mpr (by decide))]
    rfl

theorem cWIn {c : Nat} {G : mM} {m : Nat} (hm : G c 4 = nI m) (h4 : m ≤ 4) (x : Int32) : x3_weightIn c x G = some (sumI (fun t => if G (c + 16 + t) 3 = x then 4 + 2 * G (c + 16 + t) 0 + G (c + 16 + t) 2 else 0) m) := by
  unfold x3_weightIn
  have h := lpV (fun n w i => x3_weightIn_L4 c x n w i G) id (fun i => sumI (fun t => if G (c + 16 + t) 3 = x then 4 + 2 * G (c + 16 + t) 0 + G (c + 16 + t) 2 else 0) (min i m)) 4 (by decide) (fun n i hi => ?_) (fun n => ?_)
  · have e : min 4 m = m := by omega
    rw [e] at h
    have h' : x3_weightIn_L4 c x mFu 0 0 G = some (sumI (fun t => if G (c + 16 + t) 3 = x then 4 + 2 * G (c + 16 + t) 0 + G (c + 16 + t) 2 else 0) m) := by
      have e0 : min 0 m = 0 := by omega
      rw [e0] at h
      exact h
    rw [h', bs]
  · show x3_weightIn_L4 c x (n + 1) _ (nI i) G = x3_weightIn_L4 c x n _ (nI (i + 1)) G
    rw [x3_weightIn_L4, if_neg (show ¬ (4 : Int32) ≤ nI i from fun q => by have := (jA_nle (a := 4) (by decide) (by omega)).mp q; omega), tAn hm h4 (by omega), bs]
    by_cases h : i < m
    · rw [if_pos h, mOs, (mn_t h).1, (mn_t h).2, sumI]
      by_cases h2 : G (c + 16 + i) 3 = x
      · rw [if_pos h2, if_pos h2, x4_weight, bs, mNm_e, mNm_e, jA_1]
      · rw [if_neg h2, if_neg h2, mNm_e, jA_1, Int32.add_zero]
    · rw [if_neg h, mOn, mn_f h, mNm_e, jA_1]
  · show x3_weightIn_L4 c x (n + 1) _ (nI 4) G = _
    rw [x3_weightIn_L4, if_pos (show (4 : Int32) ≤ nI 4 from (jA_nle (a := 4) (by decide) (by decide)).mpr (by decide))]
    rfl

theorem cPeat {c : Nat} {G : mM} {m : Nat} (hm : G c 4 = nI m) (h4 : m ≤ 4) : x3_peatInTrains c G = some (sumI (fun t => G (c + 16 + t) 2) m) := by
  unfold x3_peatInTrains
  have h := lpV (fun n w i => x3_peatInTrains_L4 c n w i G) id (fun i => sumI (fun t => G (c + 16 + t) 2) (min i m)) 4 (by decide) (fun n i hi => ?_) (fun n => ?_)
  · have e : min 4 m = m := by omega
    rw [e] at h
    have h' : x3_peatInTrains_L4 c mFu 0 0 G = some (sumI (fun t => G (c + 16 + t) 2) m) := by
      have e0 : min 0 m = 0 := by omega
      rw [e0] at h
      exact h
    rw [h', bs]
  · show x3_peatInTrains_L4 c (n + 1) _ (nI i) G = x3_peatInTrains_L4 c n _ (nI (i + 1)) G
    rw [x3_peatInTrains_L4, if_neg (show ¬ (4 : Int32) ≤ nI i from fun q => by have := (jA_nle (a := 4) (by decide) (by omega)).mp q; omega), tAn hm h4 (by omega), bs]
    by_cases h : i < m
    · rw [if_pos h, mOs, (mn_t h).1, (mn_t h).2, sumI]
      rw [mNm_e, mNm_e, jA_1]
    · rw [if_neg h, mOn, mn_f h, mNm_e, jA_1]
  · show x3_peatInTrains_L4 c (n + 1) _ (nI 4) G = _
    rw [x3_peatInTrains_L4, if_pos (show (4 : Int32) ≤ nI 4 from (jA_nle (a := 4) (by decide) (by decide)).mpr (by decide))]
    rfl

theorem cWaits {c : Nat} {G : mM} {m : Nat} (hm : G c 4 = nI m) (h4 : m ≤ 4) : x3_waitsOfAll c G = some (sumI (fun t => G (c + 16 + t) 7) m) := by
  unfold x3_waitsOfAll
  have h := lpV (fun n w i => x3_waitsOfAll_L4 c n w i G) id (fun i => sumI (fun t => G (c + 16 + t) 7) (min i m)) 4 (by decide) (fun n i hi => ?_) (fun n => ?_)
  · have e : min 4 m = m := by omega
    rw [e] at h
    have h' : x3_waitsOfAll_L4 c mFu 0 0 G = some (sumI (fun t => G (c + 16 + t) 7) m) := by
      have e0 : min 0 m = 0 := by omega
      rw [e0] at h
      exact h
    rw [h', bs]
  · show x3_waitsOfAll_L4 c (n + 1) _ (nI i) G = x3_waitsOfAll_L4 c n _ (nI (i + 1)) G
    rw [x3_waitsOfAll_L4, if_neg (show ¬ (4 : Int32) ≤ nI i from fun q => by have := (jA_nle (a := 4) (by decide) (by omega)).mp q; omega), tAn hm h4 (by omega), bs]
    by_cases h : i < m
    · rw [if_pos h, mOs, (mn_t h).1, (mn_t h).2, sumI]
      rw [mNm_e, mNm_e, jA_1]
    · rw [if_neg h, mOn, mn_f h, mNm_e, jA_1]
  · show x3_waitsOfAll_L4 c (n + 1) _ (nI 4) G = _
    rw [x3_waitsOfAll_L4, if_pos (show (4 : Int32) ≤ nI 4 from (jA_nle (a := 4) (by decide) (by decide)).mpr (by decide))]
    rfl

theorem cDeep {c : Nat} {G : mM} {m : Nat} (hm : G c 3 = nI m) (h4 : m ≤ 12) : x3_greatestSinking c G = some (mxI (fun s => G (c + 4 + s) 2) m) := by
  unfold x3_greatestSinking
  have h := lpV (fun n w i => x3_greatestSinking_L4 c n w i G) id (fun i => mxI (fun s => G (c + 4 + s) 2) (min i m)) 12 (by decide) (fun n i hi => ?_) (fun n => ?_)
  · have e : min 12 m = m := by omega
    rw [e] at h
    have h' : x3_greatestSinking_L4 c mFu 0 0 G = some (mxI (fun s => G (c + 4 + s) 2) m) := by
      have e0 : min 0 m = 0 := by omega
      rw [e0] at h
      exact h
    rw [h', bs]
  · show x3_greatestSinking_L4 c (n + 1) _ (nI i) G = x3_greatestSinking_L4 c n _ (nI (i + 1)) G
    rw [x3_greatestSinking_L4, if_neg (show ¬ (12 : Int32) ≤ nI i from fun q => by have := (jA_nle (a := 12) (by decide) (by omega)).mp q; omega), sAn hm h4 (by omega), bs]
    by_cases h : i < m
    · rw [if_pos h, mOs, (mn_t h).1, (mn_t h).2, mxI]
      rw [mNm_e, mNm_e, jA_1]
    · rw [if_neg h, mOn, mn_f h, mNm_e, jA_1]
  · show x3_greatestSinking_L4 c (n + 1) _ (nI 12) G = _
    rw [x3_greatestSinking_L4, if_pos (show (12 : Int32) ≤ nI 12 from (jA_nle (a := 12) (by decide) (by decide)).mpr (by decide))]
    rfl

theorem cSum {c : Nat} {G : mM} {m : Nat} (hm : G c 3 = nI m) (h4 : m ≤ 12) : x3_sumOfSinkings c G = some (sumI (fun s => G (c + 4 + s) 2) m) := by
  unfold x3_sumOfSinkings
  have h := lpV (fun n w i => x3_sumOfSinkings_L4 c n w i G) id (fun i => sumI (fun s => G (c + 4 + s) 2) (min i m)) 12 (by decide) (fun n i hi => ?_) (fun n => ?_)
  · have e : min 12 m = m := by omega
    rw [e] at h
    have h' : x3_sumOfSinkings_L4 c mFu 0 0 G = some (sumI (fun s => G (c + 4 + s) 2) m) := by
      have e0 : min 0 m = 0 := by omega
      rw [e0] at h
      exact h
    rw [h', bs]
  · show x3_sumOfSinkings_L4 c (n + 1) _ (nI i) G = x3_sumOfSinkings_L4 c n _ (nI (i + 1)) G
    rw [x3_sumOfSinkings_L4, if_neg (show ¬ (12 : Int32) ≤ nI i from fun q => by have := (jA_nle (a := 12) (by decide) (by omega)).mp q; omega), sAn hm h4 (by omega), bs]
    by_cases h : i < m
    · rw [if_pos h, mOs, (mn_t h).1, (mn_t h).2, sumI]
      rw [mNm_e, mNm_e, jA_1]
    · rw [if_neg h, mOn, mn_f h, mNm_e, jA_1]
  · show x3_sumOfSinkings_L4 c (n + 1) _ (nI 12) G = _
    rw [x3_sumOfSinkings_L4, if_pos (show (12 : Int32) ≤ nI 12 from (jA_nle (a := 12) (by decide) (by decide)).mpr (by decide))]
    rfl

theorem cSunk {c : Nat} {G : mM} {m : Nat} (hm : G c 3 = nI m) (h4 : m ≤ 12) : x3_sunkSegments c G = some (orI (fun s => if G (c + 4 + s) 2 ≤ G (c + 3) 0 then 0 else 1 <<< (nI s &&& 31)) m) := by
  unfold x3_sunkSegments
  have h := lpV (fun n w i => x3_sunkSegments_L4 c n w i G) id (fun i => orI (fun s => if G (c + 4 + s) 2 ≤ G (c + 3) 0 then 0 else 1 <<< (nI s &&& 31)) (min i m)) 12 (by decide) (fun n i hi => ?_) (fun n => ?_)
  · have e : min 12 m = m := by omega
    rw [e] at h
    have h' : x3_sunkSegments_L4 c mFu 0 0 G = some (orI (fun s => if G (c + 4 + s) 2 ≤ G (c + 3) 0 then 0 else 1 <<< (nI s &&& 31)) m) := by
      have e0 : min 0 m = 0 := by omega
      rw [e0] at h
      exact h
    rw [h', bs]
  · show x3_sunkSegments_L4 c (n + 1) _ (nI i) G = x3_sunkSegments_L4 c n _ (nI (i + 1)) G
    rw [x3_sunkSegments_L4, if_neg (show ¬ (12 : Int32) ≤ nI i from fun q => by have := (jA_nle (a := 12) (by decide) (by omega)).mp q; omega), sAn hm h4 (by omega), bs]
    by_cases h : i < m
    · rw [if_pos h, mOs, (mn_t h).1, (mn_t h).2, orI]
      by_cases h2 : G (c + 4 + i) 2 ≤ G (c + 3) 0
      · rw [if_pos h2, if_pos h2, mNm_e, jA_1, Int32.or_zero]
      · rw [if_neg h2, if_neg h2, mNm_e, mNm_e, jA_1]
    · rw [if_neg h, mOn, mn_f h, mNm_e, jA_1]
  · show x3_sunkSegments_L4 c (n + 1) _ (nI 12) G = _
    rw [x3_sunkSegments_L4, if_pos (show (12 : Int32) ≤ nI 12 from (jA_nle (a := 12) (by decide) (by decide)).mpr (by decide))]
    rfl
