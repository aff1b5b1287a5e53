/-! the class's tick: the marks and the rounds -/
theorem k4 {i : Nat} (h : i < 4) : ¬ (4 : Int32) ≤ nI i := fun q => by have := (jA_nle (a := 4) (by decide) (by omega)).mp q; omega
theorem k44 : (4 : Int32) ≤ nI 4 := (jA_nle (a := 4) (by decide) (by decide)).mpr (by decide)
theorem k12 {i : Nat} (h : i < 12) : ¬ (12 : Int32) ≤ nI i := fun q => by have := (jA_nle (a := 12) (by decide) (by omega)).mp q; omega
theorem k1212 : (12 : Int32) ≤ nI 12 := (jA_nle (a := 12) (by decide) (by decide)).mpr (by decide)
theorem cFirst {G : mM} {c : Nat} {z : mR} (h : Rs G c z) (hi : rInv z) {t : Nat} (ht : t < rM z) : x3_goesFirst c (c + 16 + t) G = some (if rFirst z t then 1 else 0) := by
  obtain ⟨-, -, -, -, hu⟩ := hi.tr ht
  obtain ⟨-, -, hr⟩ := hi.set
  unfold x3_goesFirst
  rw [h.set.2.2, mNm_e, h.tr ht (k := 4) (by decide)]
  have d01 : ¬ (0 : Int32) = 1 := by decide
  have d02 : ¬ (0 : Int32) = 2 := by decide
  have d12 : ¬ (1 : Int32) = 2 := by decide
  rcases hr with hr | hr | hr
  · have hF : rFirst z t ↔ z (36 + 9 * t + 4) = 1 := by unfold rFirst; rw [hr]; simp [d02, d01]
    rw [if_neg (by rw [hr]; exact d02), if_pos hr]
    by_cases h1 : z (36 + 9 * t + 4) = 1
    · rw [if_pos h1, if_pos (hF.mpr h1)]
    · rw [if_neg h1, if_neg (fun q => h1 (hF.mp q))]
  · have hF : rFirst z t ↔ z (36 + 9 * t + 4) = 0 := by unfold rFirst; rw [hr]; simp [d12, one_ne]
    rw [if_neg (by rw [hr]; exact d12), if_neg (by rw [hr]; exact one_ne)]
    by_cases h1 : z (36 + 9 * t + 4) = 0
    · rw [if_pos h1, if_pos (hF.mpr h1)]
    · rw [if_neg h1, if_neg (fun q => h1 (hF.mp q))]
  · rw [if_pos hr, if_pos (Or.inl hr)]
theorem cMarks {G : mM} {c : Nat} {z : mR} (h : Rs G c z) (hi : rInv z) : ∃ G', x3_tick_L2 c mFu 0 G = some G' ∧ Rs G' c z ∧ fr c (rM z) G G' ∧ G' c 10 = G c 10 ∧ ∀ t, t < rM z → G' (c + 16 + t) 9 = if rFirst z t then 1 else 0 := by
  have hm := hi.m
  have hLp := lpI (fun n a i => x3_tick_L2 c n i a) id (fun i G' => Rs G' c z ∧ fr c (rM z) G G' ∧ G' c 10 = G c 10 ∧ ∀ t, t < min i (rM z) → G' (c + 16 + t) 9 = if rFirst z t then 1 else 0) 4 (fun n i G1 hi4 hI => ?_) (fun n G1 hI => ?_) 4 0 mFu G rfl (by unfold mFu; decide) ⟨h, fr.rf, rfl, fun t ht => by omega⟩
  · obtain ⟨G', h1, h2, h3, h4, h5⟩ := hLp
    exact ⟨G', h1, h2, h3, h4, fun t ht => h5 t (by omega)⟩
  · obtain ⟨a1, a2, a3, a4⟩ := hI
    show ∃ a', x3_tick_L2 c (n + 1) (nI i) G1 = x3_tick_L2 c n (nI (i + 1)) a' ∧ _
    rw [x3_tick_L2, if_neg (k4 hi4), tAn (a1.m hi) hm (by omega), bs]
    by_cases him : i < rM z
    · rw [if_pos him, mOs, cFirst a1 hi him, bs, mCk_t (by split; exact Or.inr rfl; exact Or.inl rfl), mNm_e, mNm_e, jA_1]
      refine ⟨_, rfl, Rs_early a1 hi hi4, a2.tr (fr.up _ (by omega)), by rw [up2_ne (Or.inl (by omega))]; exact a3, fun t ht => ?_⟩
      by_cases e : t = i
      · rw [e, up2_same]
      · rw [up2_ne (Or.inl (by omega))]; exact a4 t (by omega)
    · rw [if_neg him, mOn, mNm_e, jA_1]
      exact ⟨_, rfl, a1, a2, a3, fun t ht => a4 t (by omega)⟩
  · show x3_tick_L2 c (n + 1) (nI 4) G1 = _
    rw [x3_tick_L2, if_pos k44]
    rfl
theorem cRnd {G : mM} {c : Nat} {z0 z : mR} (hi0 : rInv z0) (h : Rs G c z) (hi : rInv z) (hM : rM z = rM z0) (b : Prop) [Decidable b] {y : Int32} (hy : (y = 0 ∧ b) ∨ (y = 1 ∧ ¬ b)) (hf : ∀ t, t < rM z0 → G (c + 16 + t) 9 = if rFirst z0 t then 1 else 0) : ∃ G', x3_tick_L41 c y mFu 0 G = some G' ∧ Rs G' c (rRnd z0 b z (rM z0)) ∧ stp c (rM z0) G G' := by
  have hm := hi0.m
  have hLp := lpI (fun n a i => x3_tick_L41 c y n i a) id (fun i G' => Rs G' c (rRnd z0 b z (min i (rM z0))) ∧ stp c (rM z0) G G') 4 (fun n i G1 hi4 hI => ?_) (fun n G1 hI => ?_) 4 0 mFu G rfl (by unfold mFu; decide) ⟨by rw [Nat.zero_min]; exact h, stp.rf⟩
  · obtain ⟨G', h1, h2, h3⟩ := hLp
    rw [show min 4 (rM z0) = rM z0 by omega] at h2
    exact ⟨G', h1, h2, h3⟩
  · obtain ⟨a1, a2⟩ := hI
    have hiw : rInv (rRnd z0 b z (min i (rM z0))) := rRnd_inv hi (by omega)
    have hMw : rM (rRnd z0 b z (min i (rM z0))) = rM z0 := by rw [(rRnd_M (by omega)).1, hM]
    show ∃ a', x3_tick_L41 c y (n + 1) (nI i) G1 = x3_tick_L41 c y n (nI (i + 1)) a' ∧ _
    rw [x3_tick_L41, if_neg (k4 hi4), tAn (a1.m hiw) (by rw [hMw]; exact hm) (by omega), bs, hMw]
    by_cases him : i < rM z0
    · have e9 : G1 (c + 16 + i) 9 = if rFirst z0 i then 1 else 0 := by rw [a2.2.1 i hi4, hf i him]
      have emin : min i (rM z0) = i := by omega
      rw [emin] at a1 hiw hMw
      obtain ⟨G2, b1, b2, b3⟩ := cTurn a1 hiw (t := i) (by rw [hMw]; exact him)
      rw [hMw] at b3
      have stay : ∀ (P : Prop), ¬ (rFirst z0 i ↔ b) → Rs G1 c (rRnd z0 b z (min (i + 1) (rM z0))) ∧ stp c (rM z0) G G1 := fun _ hn => by
        rw [show min (i + 1) (rM z0) = i + 1 by omega, rRnd, if_neg hn]
        exact ⟨a1, a2⟩
      have go : (rFirst z0 i ↔ b) → Rs G2 c (rRnd z0 b z (min (i + 1) (rM z0))) ∧ stp c (rM z0) G G2 := fun hn => by
        rw [show min (i + 1) (rM z0) = i + 1 by omega, rRnd, if_pos hn]
        exact ⟨b2, a2.tr b3⟩
      rw [if_pos him, mOs, e9]
      rcases hy with ⟨rfl, hb⟩ | ⟨rfl, hb⟩
      · rw [if_pos (rfl : (0 : Int32) = 0)]
        by_cases hF : rFirst z0 i
        · rw [if_pos hF, if_pos (rfl : (1 : Int32) = 1), b1, bs, mNm_e, jA_1]
          exact ⟨G2, rfl, go ⟨fun _ => hb, fun _ => hF⟩⟩
        · rw [if_neg hF, if_neg (by decide), mNm_e, jA_1]
          exact ⟨G1, rfl, stay True (fun q => hF (q.mpr hb))⟩
      · rw [if_neg one_ne]
        by_cases hF : rFirst z0 i
        · rw [if_pos hF, if_neg one_ne, mNm_e, jA_1]
          exact ⟨G1, rfl, stay True (fun q => hb (q.mp hF))⟩
        · rw [if_neg hF, if_pos (rfl : (0 : Int32) = 0), b1, bs, mNm_e, jA_1]
          exact ⟨G2, rfl, go ⟨fun q => absurd q hF, fun q => absurd q hb⟩⟩
    · rw [if_neg him, mOn, mNm_e, jA_1]
      exact ⟨G1, rfl, by rw [mn_f him]; exact a1, a2⟩
  · show x3_tick_L41 c y (n + 1) (nI 4) G1 = _
    rw [x3_tick_L41, if_pos k44]
    rfl
/-! settling -/
theorem rW0 {z : mR} (hi : rInv z) (x : Int32) : ∀ n, n ≤ rM z → (sumI (fun t => if z (36 + 9 * t + 3) = x then rW z t else 0) n = 0 ↔ sumI (fun t => if z (36 + 9 * t + 3) = x then 1 else 0) n = 0)
  | 0, _ => Iff.rfl
  | n + 1, h => by
    have hm := hi.m
    have ih := rW0 hi x n (by omega)
    have b1 := sumI_bd (f := fun t => if z (36 + 9 * t + 3) = x then rW z t else 0) (B := 136) (n := n) (fun i hn => by
      have h2 := rW_in hi (t := i) (by omega)
      show 0 ≤ (if z (36 + 9 * i + 3) = x then rW z i else 0).toInt ∧ (if z (36 + 9 * i + 3) = x then rW z i else 0).toInt ≤ 136
      by_cases e : z (36 + 9 * i + 3) = x
      · rw [if_pos e]; omega
      · rw [if_neg e]; decide) (by omega) (by decide)
    have b2 := is01_bd (f := fun t => if z (36 + 9 * t + 3) = x then 1 else 0) (n := n) (fun i _ => by
      show (if z (36 + 9 * i + 3) = x then (1 : Int32) else 0) = 0 ∨ (if z (36 + 9 * i + 3) = x then (1 : Int32) else 0) = 1
      split
      · exact Or.inr rfl
      · exact Or.inl rfl) (by omega)
    have h2 := rW_in hi (t := n) (by omega)
    have z0 : (0 : Int32).toInt = 0 := by decide
    have z1 : (1 : Int32).toInt = 1 := by decide
    rw [sumI, sumI]
    by_cases e : z (36 + 9 * n + 3) = x
    · rw [if_pos e, if_pos e]
      have e1 := jA_add (x := sumI (fun t => if z (36 + 9 * t + 3) = x then rW z t else 0) n) (y := rW z n) (by omega) (by omega)
      have e2 := jA_add (x := sumI (fun t => if z (36 + 9 * t + 3) = x then 1 else 0) n) (y := 1) (by omega) (by omega)
      rw [jA_eq, jA_eq]
      omega
    · rw [if_neg e, if_neg e, Int32.add_zero, Int32.add_zero]
      exact ih
theorem rW0' {z : mR} (hi : rInv z) (x : Int32) : rWIns z x = 0 ↔ rTrIn z x = 0 := rW0 hi x (rM z) (Nat.le_refl _)
theorem cBurden {G : mM} {c : Nat} {z : mR} (h : Rs G c z) (hi : rInv z) : ∃ G', x3_settle_L2 c mFu 0 G = some G' ∧ (∀ d k, ¬ (c + 4 ≤ d ∧ d < c + 16 ∧ k = 5) → G' d k = G d k) ∧ ∀ s, s < 12 → G' (c + 4 + s) 5 = rWIns z (nI s) := by
  have hm := hi.m
  have hn := hi.n
  have hLp := lpI (fun n a i => x3_settle_L2 c n i a) id (fun i G' => (∀ d k, ¬ (c + 4 ≤ d ∧ d < c + 16 ∧ k = 5) → G' d k = G d k) ∧ ∀ s, s < 12 → G' (c + 4 + s) 5 = sumI (fun t => if z (36 + 9 * t + 3) = nI s then rW z t else 0) (min i (rM z))) 4 (fun n i G1 hi4 hI => ?_) (fun n G1 hI => ?_) 4 0 mFu G rfl (by unfold mFu; decide) ⟨fun _ _ _ => rfl, fun s hs => by rw [Nat.zero_min]; exact h.bu hs⟩
  · obtain ⟨G', h1, h2, h3⟩ := hLp
    rw [show min 4 (rM z) = rM z by omega] at h3
    exact ⟨G', h1, h2, h3⟩
  · obtain ⟨a1, a2⟩ := hI
    show ∃ a', x3_settle_L2 c (n + 1) (nI i) G1 = x3_settle_L2 c n (nI (i + 1)) a' ∧ _
    rw [x3_settle_L2, if_neg (k4 hi4), tAn (c := c) (m := rM z) (by rw [a1 _ _ (by omega)]; exact h.m hi) hm (by omega), bs]
    by_cases him : i < rM z
    · obtain ⟨-, -, -, ⟨hp, ep⟩, -⟩ := hi.tr him
      rw [if_pos him, mOs, a1 (c + 16 + i) 3 (by omega), h.tr him (k := 3) (by decide), ep, sAn (c := c) (m := rN z) (by rw [a1 _ _ (by omega)]; exact h.n hi) hn.2 (by omega), bs, if_pos hp, mOs, x4_weight, bs, a1 (c + 16 + i) 0 (by omega), a1 (c + 16 + i) 2 (by omega), h.tr him (k := 0) (by decide), h.tr him (k := 2) (by decide), mNm_e, mNm_e, jA_1]
      refine ⟨_, rfl, fun d k hdk => ?_, fun s hs => ?_⟩
      · rw [up2_ne (by omega)]; exact a1 d k hdk
      · rw [(mn_t him).1, (mn_t him).2, sumI]
        have a2' := a2 s hs
        rw [(mn_t him).2] at a2'
        by_cases e : s = rPl z i
        · rw [e, up2_same, if_pos ep, ← e, a2']
          rfl
        · rw [up2_ne (Or.inl (by omega)), a2', if_neg (fun q => e (by rw [ep] at q; have := (jA_neq (by omega) (by omega)).mp q; omega)), Int32.add_zero]
    · rw [if_neg him, mOn, mNm_e, jA_1]
      exact ⟨G1, rfl, a1, fun s hs => by rw [mn_f him]; exact a2 s hs⟩
  · show x3_settle_L2 c (n + 1) (nI 4) G1 = _
    rw [x3_settle_L2, if_pos k44]
    rfl
def pkF (pk : Int32) (f : Nat → Int32) : Nat → Int32
  | 0 => pk
  | n + 1 => if pkF pk f n < f n then f n else pkF pk f n
theorem mxI_nn (f : Nat → Int32) : ∀ n, 0 ≤ (mxI f n).toInt
  | 0 => by show 0 ≤ (0 : Int32).toInt; decide
  | n + 1 => by
    have ih := mxI_nn f n
    rw [mxI]
    split
    · rename_i h
      rw [jA_lt] at h
      omega
    · exact ih
theorem pkF_mx {pk : Int32} (h0 : 0 ≤ pk.toInt) (f : Nat → Int32) : ∀ n, pkF pk f n = if pk < mxI f n then mxI f n else pk
  | 0 => by
    rw [pkF, mxI, if_neg (fun q => by rw [jA_lt, show (0 : Int32).toInt = 0 by decide] at q; omega)]
  | n + 1 => by
    rw [pkF, mxI, pkF_mx h0 f n]
    by_cases h1 : pk < mxI f n
    · rw [if_pos h1]
      by_cases h2 : mxI f n < f n
      · rw [if_pos h2, if_pos (by rw [jA_lt] at h1 h2 ⊢; omega)]
      · rw [if_neg h2, if_pos h1]
    · rw [if_neg h1]
      by_cases h2 : pk < f n
      · rw [if_pos h2]
        have h3 : mxI f n < f n := by rw [jA_lt] at h1 h2 ⊢; omega
        rw [if_pos h3, if_pos h2]
      · rw [if_neg h2]
        by_cases h3 : mxI f n < f n
        · rw [if_pos h3, if_neg h2]
        · rw [if_neg h3, if_neg h1]
theorem cSettle {G : mM} {c : Nat} {z : mR} (h : Rs G c z) (hi : rInv z) : ∃ G', x3_settle c G = some G' ∧ Rs G' c (rSink z) ∧ fr c (rM z) G G' ∧ G' c 10 = pkF (G c 10) (rSk z) (rN z) := by
  have hm := hi.m
  have hn := hi.n
  obtain ⟨G0, g1, g2, g3⟩ := cBurden h hi
  have hLp := lpI (fun n a i => x3_settle_L51 c n i a) id (fun i G' => (∀ d k, ¬ (c + 4 ≤ d ∧ d < c + 4 + min i (rN z) ∧ (k = 2 ∨ k = 5)) → ¬ (d = c ∧ k = 10) → G' d k = G0 d k) ∧ (∀ s, s < min i (rN z) → G' (c + 4 + s) 2 = rSk z s ∧ G' (c + 4 + s) 5 = 0) ∧ G' c 10 = pkF (G c 10) (rSk z) (min i (rN z))) 12 (fun n i G1 hi4 hI => ?_) (fun n G1 hI => ?_) 12 0 mFu G0 rfl (by unfold mFu; decide) ⟨fun _ _ _ _ => rfl, fun s hs => by omega, by rw [Nat.zero_min]; exact g2 _ _ (by omega)⟩
  · obtain ⟨G', h1, h2, h3, h4⟩ := hLp
    rw [show min 12 (rN z) = rN z by omega] at h2 h3 h4
    refine ⟨G', ?_, ?_, fun d hd => ?_, h4⟩
    · unfold x3_settle
      rw [g1, bs, show x3_settle_L51 c mFu 0 G0 = some G' from h1, bs]
    · have e : ∀ d k, ¬ (c + 4 ≤ d ∧ d < c + 16 ∧ (k = 2 ∨ k = 5)) → ¬ (d = c ∧ k = 10) → G' d k = G d k := fun d k q1 q2 => by rw [h2 d k (by omega) q2, g2 d k (by omega)]
      have hz : ∀ k, 36 ≤ k ∨ k % 3 ≠ 2 → rSink z k = z k := fun k hk => rSinkN_ge (by omega)
      have hw := rSinkN_inv hi (Nat.le_refl (rN z))
      have hNM := rSinkN_N (z := z) (n := rN z) hn.2
      refine ⟨⟨by rw [e _ _ (by omega) (by omega), hz _ (by omega)]; exact h.1.1, by rw [e _ _ (by omega) (by omega), hz _ (by omega)]; exact h.1.2.1, by rw [e _ _ (by omega) (by omega), hz _ (by omega)]; exact h.1.2.2.1, by rw [e _ _ (by omega) (by omega), hz _ (by omega)]; exact h.1.2.2.2.1, by rw [e _ _ (by omega) (by omega), hz _ (by omega)]; exact h.1.2.2.2.2.1, by rw [e _ _ (by omega) (by omega), hz _ (by omega)]; exact h.1.2.2.2.2.2.1, by rw [e _ _ (by omega) (by omega), hz _ (by omega)]; exact h.1.2.2.2.2.2.2⟩, ⟨by rw [e _ _ (by omega) (by omega), hz _ (by omega)]; exact h.set.1, by rw [e _ _ (by omega) (by omega), hz _ (by omega)]; exact h.set.2.1, by rw [e _ _ (by omega) (by omega), hz _ (by omega)]; exact h.set.2.2⟩, fun s hs => ?_, fun s hs => ?_, fun t ht k hk => ?_⟩
      · have hs' : s < rN z := by rw [show rN (rSink z) = rN z from hNM.1] at hs; exact hs
        rw [e _ 0 (by omega) (by omega), e _ 1 (by omega) (by omega), e _ 3 (by omega) (by omega), e _ 4 (by omega) (by omega), hz (3 * s) (by omega), rRoom_cong (z := z) (w := rSink z) (hz 72 (by omega)) (fun j _ hj => hz j (by omega)) (by omega), rAb_cong (w := rSink z) hi hw (hz 72 (by omega)) (fun j _ hj => hz j (by omega)) hs', rBe_cong (z := z) (w := rSink z) (fun j _ hj => hz j (by omega)) (by omega), (h3 s hs').1, show rSink z (3 * s + 2) = rSk z s from rSinkN_lt hs']
        exact ⟨(h.seg hs').1, (h.seg hs').2.1, rfl, (h.seg hs').2.2.2.1, (h.seg hs').2.2.2.2⟩
      · by_cases hs' : s < rN z
        · exact (h3 s hs').2
        · rw [h2 _ _ (by omega) (by omega), g3 s hs]
          exact (sumI_cong (g := fun _ => 0) (fun t ht => by
            obtain ⟨-, -, -, ⟨hp, ep⟩, -⟩ := hi.tr ht
            rw [if_neg (fun q => by rw [ep] at q; have := (jA_neq (by omega) (by omega)).mp q; omega)])).trans (by
              generalize rM z = m
              induction m with
              | zero => rfl
              | succ m ih => rw [sumI, ih]; rfl)
      · rw [show rM (rSink z) = rM z from hNM.2] at ht
        rw [e _ _ (by omega) (by omega), hz _ (by omega)]; exact h.tr ht hk
    · funext k
      rw [h2 d k (by omega) (by omega), g2 d k (by omega)]
  · obtain ⟨a1, a2, a3⟩ := hI
    show ∃ a', x3_settle_L51 c (n + 1) (nI i) G1 = x3_settle_L51 c n (nI (i + 1)) a' ∧ _
    have hc3 : G1 c 3 = nI (rN z) := by rw [a1 _ _ (by omega) (by omega), g2 _ _ (by omega)]; exact h.n hi
    rw [x3_settle_L51, if_neg (k12 hi4), sAn hc3 hn.2 (by omega), bs]
    by_cases him : i < rN z
    · have r2 : G1 (c + 4 + i) 2 = z (3 * i + 2) := by rw [a1 _ _ (by omega) (by omega), g2 _ _ (by omega)]; exact (h.seg him).2.2.1
      have r0 : G1 (c + 4 + i) 0 = z (3 * i) := by rw [a1 _ _ (by omega) (by omega), g2 _ _ (by omega)]; exact (h.seg him).1
      have r5 : G1 (c + 4 + i) 5 = rWIns z (nI i) := by rw [a1 _ _ (by omega) (by omega)]; exact g3 i (by omega)
      have rr : G1 (c + 3) 1 = z 76 := by rw [a1 _ _ (by omega) (by omega), g2 _ _ (by omega)]; exact h.set.2.1
      have hs : x2_settle (c + 4 + i) (z 76) G1 = some (up2 (up2 G1 (c + 4 + i) 2 (rSk z i)) (c + 4 + i) 5 0) := by
        unfold x2_settle rSk
        rw [r2, r0, r5]
        by_cases h0 : rWIns z (nI i) = 0
        · rw [if_pos h0, if_pos ((rW0' hi _).mp h0), mNm_e, mNm_e, mNm_e]
        · rw [if_neg h0, if_neg (fun q => h0 ((rW0' hi _).mpr q)), mNm_e, mNm_e, mNm_e]
      rw [if_pos him, mOs, rr, hs, bs, mNm_e, mNm_e, mNm_e, jA_1]
      have q10 : up2 (up2 G1 (c + 4 + i) 2 (rSk z i)) (c + 4 + i) 5 0 c 10 = pkF (G c 10) (rSk z) i := by
        rw [up2_ne (Or.inr (by decide)), up2_ne (Or.inr (by decide)), a3, (mn_t him).2]
      have q2 : up2 (up2 G1 (c + 4 + i) 2 (rSk z i)) (c + 4 + i) 5 0 (c + 4 + i) 2 = rSk z i := by
        rw [up2_ne (Or.inr (by decide)), up2_same]
      rw [q10, q2]
      refine ⟨_, rfl, fun d k hd1 hd2 => ?_, fun s hs => ?_, ?_⟩
      · rw [up2_ne (by omega), up2_ne (by omega), up2_ne (by omega)]
        exact a1 d k (by omega) hd2
      · by_cases e : s = i
        · subst e
          rw [up2_ne (Or.inl (by omega)), up2_ne (Or.inr (by decide)), up2_same, up2_ne (Or.inl (by omega)), up2_same]
          exact ⟨rfl, rfl⟩
        · rw [up2_ne (Or.inl (by omega)), up2_ne (Or.inl (by omega)), up2_ne (Or.inl (by omega)), up2_ne (Or.inl (by omega)), up2_ne (Or.inl (by omega)), up2_ne (Or.inl (by omega))]
          exact a2 s (by omega)
      · rw [up2_same, (mn_t him).1, (mn_t him).2, pkF]
    · rw [if_neg him, mOn, mNm_e, jA_1]
      rw [mn_f him]
      exact ⟨G1, rfl, a1, a2, a3⟩
  · show x3_settle_L51 c (n + 1) (nI 12) G1 = _
    rw [x3_settle_L51, if_pos k1212]
    rfl
theorem rTick_deep {z : mR} (hi : rInv z) : rDeep (rTick z) = mxI (rSk (rRnd z False (rRnd z True z (rM z)) (rM z))) (rN z) := by
  have hm := hi.m
  have hn := hi.n
  have e1 : rN (rRnd z False (rRnd z True z (rM z)) (rM z)) = rN z := by rw [(rRnd_M hm).2, (rRnd_M hm).2]
  unfold rDeep rTick
  rw [rN_upd (by decide), show rN (rSink (rRnd z False (rRnd z True z (rM z)) (rM z))) = rN z by rw [show rN (rSink _) = rN _ from (rSinkN_N (by rw [e1]; exact hn.2)).1, e1]]
  refine mxI_cong (fun s hs => ?_)
  rw [upd_n (by omega)]
  exact rSinkN_lt (by rw [e1]; exact hs)
theorem cTick {G : mM} {c : Nat} {z : mR} (h : Rs G c z) (hi : rInv z) (hpk : 0 ≤ (G c 10).toInt) : ∃ G', x3_tick c G = some G' ∧ Rs G' c (rTick z) ∧ fr c (rM z) G G' ∧ G' c 10 = if G c 10 < rDeep (rTick z) then rDeep (rTick z) else G c 10 := by
  have hm := hi.m
  have i1 := rRnd_inv (z0 := z) (b := True) hi (k := rM z) (Nat.le_refl _)
  have m1 : rM (rRnd z True z (rM z)) = rM z := (rRnd_M hm).1
  have i2 := rRnd_inv (z0 := z) (b := False) i1 (k := rM z) (by rw [m1]; exact Nat.le_refl _)
  obtain ⟨G1, a1, a2, a3, a4, a5⟩ := cMarks h hi
  obtain ⟨G2, b1, b2, b3⟩ := cRnd hi a2 hi rfl True (Or.inl ⟨rfl, trivial⟩) a5
  obtain ⟨G3, d1, d2, d3⟩ := cRnd hi b2 i1 m1 False (Or.inr ⟨rfl, fun q => q⟩) (fun t ht => by rw [b3.2.1 t (by omega)]; exact a5 t ht)
  obtain ⟨G4, e1, e2, e3, e4⟩ := cSettle d2 i2
  have eM : rM (rRnd z False (rRnd z True z (rM z)) (rM z)) = rM z := by rw [(rRnd_M hm).1, (rRnd_M hm).1]
  rw [eM] at e3
  have i4 := rSinkN_inv i2 (Nat.le_refl _)
  have hL : x3_tick_L34 c mFu 0 G1 = some G3 := by
    unfold mFu
    rw [x3_tick_L34, if_neg (by decide), b1, bs, mNm_e]
    rw [x3_tick_L34, if_neg (by decide), show x3_tick_L41 c (0 + 1) mFu 0 G2 = some G3 from d1, bs, mNm_e]
    rw [x3_tick_L34, if_pos (by decide)]
  have eN : rN (rRnd z False (rRnd z True z (rM z)) (rM z)) = rN z := by rw [(rRnd_M hm).2, (rRnd_M hm).2]
  refine ⟨up2 G4 c 9 (G4 c 9 + 1), ?_, ?_, ((((a3.tr b3.1).tr d3.1).tr e3).tr (fr.up _ (by omega))), ?_⟩
  · unfold x3_tick
    rw [a1, bs, hL, bs, e1, bs, mNm_e]
  · rw [e2.1.2.2.2.2.2.2]
    exact Rs_clock e2 i4
  · rw [up2_ne (Or.inr (by decide)), e4, d3.2.2, b3.2.2, a4, pkF_mx hpk, rTick_deep hi, eN]
