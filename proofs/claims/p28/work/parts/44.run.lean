/-! many ticks -/
theorem rTick_k {z : mR} (hi : rInv z) {j : Nat} (hj : (36 > j ∧ j % 3 ≠ 2) ∨ (72 ≤ j ∧ j ≤ 78 ∧ j ≠ 74) ∨ 81 ≤ j) : rTick z j = z j := by
  have hm := hi.m
  have hn := hi.n
  unfold rTick
  rw [upd_n (by omega), show rSink (rRnd z False (rRnd z True z (rM z)) (rM z)) j = _ from rSinkN_ge (by rw [(rRnd_M hm).2, (rRnd_M hm).2]; omega), rRnd_k (by omega) hm, rRnd_k (by omega) hm]
theorem rTick_N {z : mR} (hi : rInv z) : rN (rTick z) = rN z ∧ rM (rTick z) = rM z := by
  unfold rN rM
  rw [rTick_k hi (by omega), rTick_k hi (by omega)]
  exact ⟨rfl, rfl⟩
theorem rTick_80 {z : mR} (hi : rInv z) {B : Int} (hB : B < 900000000) (h : 0 ≤ (z 80).toInt ∧ (z 80).toInt ≤ B) : 0 ≤ (rTick z 80).toInt ∧ (rTick z 80).toInt ≤ B + 960 := by
  have hm := hi.m
  have hn := hi.n
  have i1 := rRnd_inv (z0 := z) (b := True) hi (k := rM z) (Nat.le_refl _)
  have h1 := rRnd_80 (z0 := z) (b := True) hi (B := B) (by omega) h (k := rM z) (Nat.le_refl _)
  have h2 := rRnd_80 (z0 := z) (b := False) i1 (B := B + 120 * (rM z : Int)) (by omega) h1 (k := rM z) (by rw [(rRnd_M hm).1]; exact Nat.le_refl _)
  unfold rTick
  rw [upd_n (by omega), show rSink (rRnd z False (rRnd z True z (rM z)) (rM z)) 80 = _ from rSinkN_ge (by rw [(rRnd_M hm).2, (rRnd_M hm).2]; omega)]
  omega
def rTicks (z : mR) : Nat → mR
  | 0 => z
  | n + 1 => rTick (rTicks z n)
theorem rTicks_inv {z : mR} (hi : rInv z) : ∀ n, rInv (rTicks z n)
  | 0 => hi
  | n + 1 => rTick_inv (rTicks_inv hi n)
theorem rTicks_k {z : mR} (hi : rInv z) {j : Nat} (hj : (36 > j ∧ j % 3 ≠ 2) ∨ (72 ≤ j ∧ j ≤ 78 ∧ j ≠ 74) ∨ 81 ≤ j) : ∀ n, rTicks z n j = z j
  | 0 => rfl
  | n + 1 => by rw [rTicks, rTick_k (rTicks_inv hi n) hj, rTicks_k hi hj n]
theorem rTicks_N {z : mR} (hi : rInv z) (n : Nat) : rN (rTicks z n) = rN z ∧ rM (rTicks z n) = rM z := by
  unfold rN rM
  rw [rTicks_k hi (by omega), rTicks_k hi (by omega)]
  exact ⟨rfl, rfl⟩
theorem rTicks_80 {z : mR} (hi : rInv z) {B : Int} (hB : B < 800000000) (h : 0 ≤ (z 80).toInt ∧ (z 80).toInt ≤ B) : ∀ n : Nat, n ≤ 100000 → 0 ≤ (rTicks z n 80).toInt ∧ (rTicks z n 80).toInt ≤ B + 960 * (n : Int)
  | 0, _ => by unfold rTicks; omega
  | n + 1, hn => by
    have := rTick_80 (rTicks_inv hi n) (B := B + 960 * (n : Int)) (by omega) (rTicks_80 hi hB h n (by omega))
    rw [rTicks]
    omega
def rPk (z : mR) : Nat → Int32
  | 0 => 0
  | n + 1 => if rPk z n < rDeep (rTicks z (n + 1)) then rDeep (rTicks z (n + 1)) else rPk z n
theorem rPk_nn (z : mR) : ∀ n, 0 ≤ (rPk z n).toInt
  | 0 => by show 0 ≤ (0 : Int32).toInt; decide
  | n + 1 => by
    have ih := rPk_nn z n
    rw [rPk]
    split
    · exact mxI_nn _ _
    · exact ih
theorem kn {n i : Nat} (hn : n < 2000) (h : i < n) : ¬ nI n ≤ nI i := fun q => by have := (jA_nle (by omega) (by omega)).mp q; omega
theorem cPass {G : mM} {c : Nat} {z : mR} (h : Rs G c z) (hi : rInv z) {n : Nat} (hn : n < 1900) : ∃ G', x3_pass c (nI n) G = some (rTicks z n 80 - z 80, G') ∧ Rs G' c (rTicks z n) ∧ fr c (rM z) G G' ∧ G' c 10 = rPk z n := by
  have hLp := lpI (fun f a i => x3_pass_L12 c (nI n) (z 80) f i a) id (fun i G' => Rs G' c (rTicks z i) ∧ fr c (rM z) G G' ∧ G' c 10 = rPk z i) n (fun f i G1 hin hI => ?_) (fun f G1 hI => ?_) n 0 mFu (up2 G c 10 0) (by omega) (by unfold mFu; omega) ⟨Rs_peak h hi, fr.up G (by omega), up2_same _ _ _ _⟩
  · obtain ⟨G', h1, h2, h3, h4⟩ := hLp
    refine ⟨G', ?_, h2, h3, h4⟩
    unfold x3_pass
    rw [h.1.2.2.2.2.1, mNm_e, mNm_e, show x3_pass_L12 c (nI n) (z 80) mFu 0 (up2 G c 10 0) = some G' from h1, bs, h2.1.2.2.2.2.1]
  · obtain ⟨a1, a2, a3⟩ := hI
    show ∃ a', x3_pass_L12 c (nI n) (z 80) (f + 1) (nI i) G1 = x3_pass_L12 c (nI n) (z 80) f (nI (i + 1)) a' ∧ _
    obtain ⟨G2, b1, b2, b3, b4⟩ := cTick a1 (rTicks_inv hi i) (by rw [a3]; exact rPk_nn z i)
    rw [(rTicks_N hi i).2] at b3
    rw [x3_pass_L12, if_neg (kn (by omega) hin), b1, bs, mNm_e, jA_1]
    refine ⟨G2, rfl, b2, a2.tr b3, ?_⟩
    rw [b4, a3, rPk]
    rfl
  · show x3_pass_L12 c (nI n) (z 80) (f + 1) (nI n) G1 = _
    rw [x3_pass_L12, if_pos ((jA_nle (by omega) (by omega)).mpr (Nat.le_refl _))]
    rfl
theorem eRunL (G : mM) {z : mR} (hi : rInv z) (y : Int32) {n : Nat} (hn : n < 1900) : x6_run_L26 (nI n) y mFu 0 (sr G z) = some (sr G (rTicks z n)) := by
  have h := lpV (fun f a i => x6_run_L26 (nI n) y f i a) id (fun i => sr G (rTicks z i)) n (by omega) (fun f i hin => ?_) (fun f => ?_)
  · exact h
  · show x6_run_L26 (nI n) y (f + 1) (nI i) (sr G (rTicks z i)) = x6_run_L26 (nI n) y f (nI (i + 1)) (sr G (rTicks z (i + 1)))
    rw [x6_run_L26, if_neg (kn (by omega) hin), eTick G (rTicks_inv hi i), bs, mNm_e, jA_1]
    rfl
  · show x6_run_L26 (nI n) y (f + 1) (nI n) (sr G (rTicks z n)) = _
    rw [x6_run_L26, if_pos ((jA_nle (by omega) (by omega)).mpr (Nat.le_refl _))]
    rfl
theorem eAheadL (G : mM) {z : mR} (hi : rInv z) (y2 y3 y4 : Int32) {n : Nat} (hn : n < 1900) : x6_ahead_L32 (nI n) y2 y3 y4 mFu 0 0 (sr G z) = some (rPk z n, sr G (rTicks z n)) := by
  have h := lpV (fun f (a : Int32 × mM) i => x6_ahead_L32 (nI n) y2 y3 y4 f a.1 i a.2) id (fun i => (rPk z i, sr G (rTicks z i))) n (by omega) (fun f i hin => ?_) (fun f => ?_)
  · dsimp only [id] at h
    rw [show rPk z 0 = 0 from rfl, show rTicks z 0 = z from rfl, show nI 0 = 0 from rfl] at h
    exact h
  · dsimp only
    have e : rTick (rTicks z i) = rTicks z (i + 1) := rfl
    rw [x6_ahead_L32, if_neg (kn (by omega) hin), eTick G (rTicks_inv hi i), bs, e, eDeep G (rTicks_inv hi (i + 1)), bs, rPk]
    by_cases h1 : rDeep (rTicks z (i + 1)) ≤ rPk z i
    · rw [if_pos h1, if_neg (fun q => by rw [jA_le] at h1; rw [jA_lt] at q; omega), mNm_e, jA_1]
    · rw [if_neg h1, if_pos (by rw [jA_le] at h1; rw [jA_lt]; omega), bs, mNm_e, jA_1]
  · dsimp only [id]
    rw [x6_ahead_L32, if_pos ((jA_nle (by omega) (by omega)).mpr (Nat.le_refl _))]
/-- the cells of a State that no row tells: the burdens, and the directions of trains that aren't there -/
def Cl (G : mM) (c : Nat) : Prop := (∀ s, s < 12 → G (c + 4 + s) 5 = 0) ∧ ∀ t, t < 4 → G (c + 16 + t) 4 = 0 ∨ G (c + 16 + t) 4 = 1
theorem Cl.step {G G' : mM} {c : Nat} {z : mR} (h : Cl G c) (hR : Rs G' c z) (hi : rInv z) (hf : fr c (rM z) G G') : Cl G' c := by
  refine ⟨fun s hs => hR.bu hs, fun t ht => ?_⟩
  by_cases hm : t < rM z
  · rw [hR.tr hm (by decide)]
    exact (hi.tr hm).2.2.2.2
  · rw [hf _ (by omega)]
    exact h.2 t ht
theorem Cl.o {G G' : mM} {c : Nat} (h : Cl G c) (hf : ∀ d, c ≤ d → d < c + 20 → G' d = G d) : Cl G' c :=
  ⟨fun s hs => by rw [hf _ (by omega) (by omega)]; exact h.1 s hs, fun t ht => by rw [hf _ (by omega) (by omega)]; exact h.2 t ht⟩
theorem Rs.o {G G' : mM} {c : Nat} {z : mR} (h : Rs G c z) (hn : rN z ≤ 12) (hm : rM z ≤ 4) (hf : ∀ d, c ≤ d → d < c + 20 → G' d = G d) : Rs G' c z := by
  obtain ⟨h1, h2, h3, h4, h5⟩ := h
  refine ⟨by rw [hf c (by omega) (by omega)]; exact h1, by rw [hf (c + 3) (by omega) (by omega)]; exact h2, fun s hs => by rw [hf (c + 4 + s) (by omega) (by omega)]; exact h3 s hs, fun s hs => by rw [hf (c + 4 + s) (by omega) (by omega)]; exact h4 s hs, fun t ht k hk => by rw [hf (c + 16 + t) (by omega) (by omega)]; exact h5 t ht k hk⟩
/-- only the first 82 count -/
theorem rNM_c {z w : mR} (h : ∀ k, k < 82 → w k = z k) : rN w = rN z ∧ rM w = rM z := by
  unfold rN rM
  rw [h _ (by decide), h _ (by decide)]
  exact ⟨rfl, rfl⟩
theorem rInv_c {z w : mR} (hi : rInv z) (h : ∀ k, k < 82 → w k = z k) : rInv w := by
  obtain ⟨eN, eM⟩ := rNM_c h
  have hn := hi.n
  have hm := hi.m
  refine ⟨by rw [eN, eM]; exact hi.1, by rw [eN, h _ (by decide)]; exact hi.zn, by rw [eM, h _ (by decide)]; exact hi.zm, by rw [h _ (by decide), h _ (by decide), h _ (by decide)]; exact hi.set, ⟨by rw [h _ (by decide)]; exact hi.first, by rw [eN, h _ (by omega)]; exact hi.last⟩, fun s hs => ?_, fun t ht => ?_⟩
  · rw [eN] at hs
    rw [h _ (by omega), h _ (by omega), h _ (by omega)]
    exact hi.seg hs
  · rw [eM] at ht
    unfold rPl
    rw [eN, h _ (by omega), h _ (by omega), h _ (by omega), h _ (by omega), h _ (by omega)]
    exact hi.tr ht
theorem Rs.cg {G : mM} {c : Nat} {z w : mR} (hR : Rs G c z) (hi : rInv z) (h : ∀ k, k < 82 → w k = z k) : Rs G c w := by
  obtain ⟨eN, eM⟩ := rNM_c h
  have hn := hi.n
  have hm := hi.m
  obtain ⟨h1, h2, h3, h4, h5⟩ := hR
  refine ⟨by rw [h _ (by decide), h _ (by decide), h _ (by decide), h _ (by decide), h _ (by decide), h _ (by decide), h _ (by decide)]; exact h1, by rw [h _ (by decide), h _ (by decide), h _ (by decide)]; exact h2, fun s hs => ?_, h4, fun t ht k hk => ?_⟩
  · rw [eN] at hs
    rw [h _ (by omega), h _ (by omega), rRoom_cong (z := z) (h _ (by decide)) (fun j hj _ => h j (by omega)) (by omega), rAb_cong hi (rInv_c hi h) (h _ (by decide)) (fun j hj _ => h j (by omega)) hs, rBe_cong (z := z) (fun j hj _ => h j (by omega)) (by omega)]
    exact h3 s hs
  · rw [eM] at ht
    rw [h _ (by omega)]
    exact h5 t ht k hk
