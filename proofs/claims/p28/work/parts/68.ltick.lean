/-! THE LAW'S tick, sunk, sum, copy -/
def mkI (z : mR) (t : Nat) : Int32 := if rFirst z t then 0 else 1
theorem LR.sink {D S T z : mR} (h : LR D S T z) {s : Nat} {v : Int32} (hs : s < 12) : LR D (upd S (3 * s + 2) v) T (upd z (3 * s + 2) v) := by
  obtain ⟨hd, hN, hs', ht'⟩ := h
  have eN : rN (upd z (3 * s + 2) v) = rN z := rN_upd (by omega)
  have eM : rM (upd z (3 * s + 2) v) = rM z := rM_upd (by omega)
  refine ⟨?_, by rw [eN]; exact hN, fun u hu => ?_, fun t' ht'' k' hk' => ?_⟩
  · rw [upd_n (show 72 ≠ 3 * s + 2 by omega), upd_n (show 73 ≠ 3 * s + 2 by omega), upd_n (show 74 ≠ 3 * s + 2 by omega), upd_n (show 75 ≠ 3 * s + 2 by omega), upd_n (show 76 ≠ 3 * s + 2 by omega), upd_n (show 77 ≠ 3 * s + 2 by omega), upd_n (show 78 ≠ 3 * s + 2 by omega), upd_n (show 79 ≠ 3 * s + 2 by omega), upd_n (show 80 ≠ 3 * s + 2 by omega), upd_n (show 81 ≠ 3 * s + 2 by omega)]
    exact hd
  · rw [eN] at hu
    unfold rPs rEnd
    rw [eN, upd_n (show 3 * u ≠ 3 * s + 2 by omega), upd_n (show 3 * u + 1 ≠ 3 * s + 2 by omega), upd_n (show 3 * u ≠ 3 * s + 2 by omega), upd_n (show 3 * u + 1 ≠ 3 * s + 2 by omega)]
    obtain ⟨a, b, c⟩ := hs' u hu
    refine ⟨a, ?_, c⟩
    by_cases e : u = s
    · rw [e, upd_s, upd_s]
    · rw [upd_n (by omega), upd_n (by omega)]; exact b
  · rw [eM] at ht''
    rw [upd_n (by omega)]
    exact ht' t' ht'' k' hk'
section LTICK
variable {a b c : Nat} {G : mM} {D S T z : mR}
set_option maxHeartbeats 1000000 in
theorem lMarks (h3 : l3 a b c) (hL : LR D S T z) (hi : rInv z) : ∃ T', xL_tick_L2 a 10 b 24 c 40 mFu 0 (lm a b c G D S T) = some (lm a b c G D S T') ∧ LR D S T' z ∧ ∀ t, t < rM z → T' (10 * t + 9) = mkI z t := by
  have hM := hi.m
  have hLp := lpI (fun n T i => xL_tick_L2 a 10 b 24 c 40 n i (lm a b c G D S T)) (fun T => lm a b c G D S T) (fun i T => LR D S T z ∧ ∀ t, t < i → T (10 * t + 9) = mkI z t) (rM z) (fun n i T hn hI => ?_) (fun n T hI => ?_) (rM z) 0 mFu T (by omega) (by unfold mFu; omega) ⟨hL, fun t h => absurd h (by omega)⟩
  · obtain ⟨T', h1, h2, h4⟩ := hLp
    exact ⟨T', h1, h2, h4⟩
  · obtain ⟨hI, hmk⟩ := hI
    have hi4 : i < 4 := by omega
    have d4 : D 4 = z 77 := hL.1.2.2.2.2.1
    have t4 : T (10 * i + 4) = z (36 + 9 * i + 4) := hI.tr hn (by decide)
    obtain ⟨-, -, -, -, hu⟩ := hi.tr hn
    obtain ⟨-, -, hr⟩ := hi.set
    have d01 : ¬ (0 : Int32) = 1 := by decide
    have d02 : ¬ (0 : Int32) = 2 := by decide
    have d12 : ¬ (1 : Int32) = 2 := by decide
    have fin : ∀ v, v = mkI z i → LR D S (upd T (10 * i + 9) v) z ∧ ∀ t, t < i + 1 → upd T (10 * i + 9) v (10 * t + 9) = mkI z t := fun v hv => ⟨hI.mark hM, fun t ht => by
      by_cases e : t = i
      · rw [e, upd_s, hv]
      · rw [upd_n (by omega)]; exact hmk t (by omega)⟩
    show ∃ T', xL_tick_L2 a 10 b 24 c 40 (n + 1) (nI i) (lm a b c G D S T) = xL_tick_L2 a 10 b 24 c 40 n (nI (i + 1)) (lm a b c G D S T') ∧ _
    rw [xL_tick_L2, mCk_t dk1, rD1, hL.d1 hi, if_neg (fun q => by have := (jA_nle (by omega) (by omega)).mp q; omega), mCk_t dk4, rD4, d4]
    rcases hr with hr | hr | hr
    · rw [if_neg (show ¬ z 77 = 2 by rw [hr]; exact d02), mCk_t (tk4 hi4), rT4 h3 hi4, t4]
      rcases hu with hu | hu
      · rw [if_neg (show ¬ z (36 + 9 * i + 4) = 1 by rw [hu]; exact d01), mCk_t dk4, if_pos hr, mCk_t (tk9 hi4), mNm_e, wT9 h3 hi4, mNm_e, jA_1]
        exact ⟨_, rfl, fin 1 (by unfold mkI rFirst; rw [hr, hu]; decide)⟩
      · rw [if_pos hu, mCk_t dk4, if_pos hr, mCk_t (tk9 hi4), mNm_e, wT9 h3 hi4, mNm_e, jA_1]
        exact ⟨_, rfl, fin 0 (by unfold mkI rFirst; rw [hr, hu]; decide)⟩
    · rw [if_neg (show ¬ z 77 = 2 by rw [hr]; exact d12), mCk_t (tk4 hi4), rT4 h3 hi4, t4]
      rcases hu with hu | hu
      · rw [if_neg (show ¬ z (36 + 9 * i + 4) = 1 by rw [hu]; exact d01), mCk_t dk4, if_neg (show ¬ z 77 = 0 by rw [hr]; exact one_ne), mCk_t (tk9 hi4), mNm_e, wT9 h3 hi4, mNm_e, jA_1]
        exact ⟨_, rfl, fin 0 (by unfold mkI rFirst; rw [hr, hu]; decide)⟩
      · rw [if_pos hu, mCk_t dk4, if_neg (show ¬ z 77 = 0 by rw [hr]; exact one_ne), mCk_t (tk9 hi4), mNm_e, wT9 h3 hi4, mNm_e, jA_1]
        exact ⟨_, rfl, fin 1 (by unfold mkI rFirst; rw [hr, hu]; decide)⟩
    · rw [if_pos hr, mCk_t (tk9 hi4), mNm_e, wT9 h3 hi4, mNm_e, jA_1]
      exact ⟨_, rfl, fin 0 (by unfold mkI rFirst; rw [if_pos (Or.inl hr)])⟩
  · show xL_tick_L2 a 10 b 24 c 40 (n + 1) (nI (rM z)) (lm a b c G D S T) = _
    rw [xL_tick_L2, mCk_t dk1, rD1, hL.d1 hi, if_pos ((jA_nle (by omega) (by omega)).mpr (Nat.le_refl _))]
set_option maxHeartbeats 1000000 in
theorem lRnd (h3 : l3 a b c) {z0 : mR} (hi0 : rInv z0) (p : Prop) [Decidable p] {y : Int32} (hy : (y = 0 ∧ p) ∨ (y = 1 ∧ ¬ p)) (hL : LR D S T z) (hi : rInv z) (hx : rX z) (hM : rM z = rM z0) (hmk : ∀ t, t < rM z0 → T (10 * t + 9) = mkI z0 t) : ∃ D' T', xL_tick_L77 a 10 b 24 c 40 y mFu 0 (lm a b c G D S T) = some (lm a b c G D' S T') ∧ LR D' S T' (rRnd z0 p z (rM z0)) ∧ ∀ t, t < rM z0 → T' (10 * t + 9) = mkI z0 t := by
  have hm := hi0.m
  have hLp := lpI (fun n (x : mR × mR) i => xL_tick_L77 a 10 b 24 c 40 y n i (lm a b c G x.1 S x.2)) (fun x => lm a b c G x.1 S x.2) (fun i x => LR x.1 S x.2 (rRnd z0 p z i) ∧ ∀ t, t < rM z0 → x.2 (10 * t + 9) = mkI z0 t) (rM z0) (fun n i x hn hI => ?_) (fun n x hI => ?_) (rM z0) 0 mFu (D, T) (by omega) (by unfold mFu; omega) ⟨hL, hmk⟩
  · obtain ⟨x, h1, h2, h4⟩ := hLp
    exact ⟨x.1, x.2, h1, h2, h4⟩
  · obtain ⟨hI, hmk⟩ := hI
    have hi4 : i < 4 := by omega
    have iI := rRnd_inv (z0 := z0) (b := p) hi (k := i) (by omega)
    have iX := rRnd_X (z0 := z0) (b := p) hi hx (k := i) (by omega)
    have eM : rM (rRnd z0 p z i) = rM z0 := (rRnd_M (by omega)).1.trans hM
    show ∃ x' : mR × mR, xL_tick_L77 a 10 b 24 c 40 y (n + 1) (nI i) (lm a b c G x.1 S x.2) = xL_tick_L77 a 10 b 24 c 40 y n (nI (i + 1)) (lm a b c G x'.1 S x'.2) ∧ _
    rw [xL_tick_L77, mCk_t dk1, rD1, hI.d1 iI, eM, if_neg (fun q => by have := (jA_nle (by omega) (by omega)).mp q; omega), mCk_t (tk9 hi4), rT9 h3 hi4, hmk i hn]
    have hR : rRnd z0 p z (i + 1) = if (rFirst z0 i ↔ p) then rTurn (rRnd z0 p z i) i else rRnd z0 p z i := rfl
    by_cases hF : (rFirst z0 i ↔ p)
    · have hyy : mkI z0 i = y := by
        unfold mkI
        rcases hy with ⟨rfl, hp⟩ | ⟨rfl, hp⟩
        · rw [if_pos (hF.mpr hp)]
        · rw [if_neg (fun q => hp (hF.mp q))]
      obtain ⟨D', T', g1, g2, g3⟩ := lTurn (G := G) h3 hI iI iX.1 (t := i) (by rw [eM]; exact hn)
      rw [if_pos hyy, g1, bs, mNm_e, jA_1]
      exact ⟨(D', T'), rfl, by rw [hR, if_pos hF]; exact g2, fun t ht => (g3 t).trans (hmk t ht)⟩
    · have hyy : ¬ mkI z0 i = y := by
        unfold mkI
        rcases hy with ⟨rfl, hp⟩ | ⟨rfl, hp⟩
        · rw [if_neg (fun q => hF ⟨fun _ => hp, fun _ => q⟩)]; decide
        · rw [if_pos (Classical.byContradiction fun q => hF ⟨fun r => absurd r q, fun r => absurd r hp⟩)]; decide
      rw [if_neg hyy, mNm_e, jA_1]
      exact ⟨x, rfl, by rw [hR, if_neg hF]; exact hI, hmk⟩
  · obtain ⟨hI, hmk⟩ := hI
    have iI := rRnd_inv (z0 := z0) (b := p) hi (k := rM z0) (by omega)
    have eM : rM (rRnd z0 p z (rM z0)) = rM z0 := (rRnd_M (by omega)).1.trans hM
    show xL_tick_L77 a 10 b 24 c 40 y (n + 1) (nI (rM z0)) (lm a b c G x.1 S x.2) = _
    rw [xL_tick_L77, mCk_t dk1, rD1, hI.d1 iI, eM, if_pos ((jA_nle (by omega) (by omega)).mpr (Nat.le_refl _))]
set_option maxHeartbeats 1000000 in
theorem lSettle (h3 : l3 a b c) (hL : LR D S T z) (hi : rInv z) : ∃ S', xL_tick_L121 a 10 b 24 c 40 mFu 0 (lm a b c G D S T) = some (lm a b c G D S' T) ∧ LR D S' T (rSink z) := by
  have h12 := hi.n
  have h8 := hL.2.1
  have e0 : (0 : Int32).toInt = 0 := by decide
  have e9 : (999 : Int32).toInt = 999 := by decide
  have hLp := lpI (fun n S i => xL_tick_L121 a 10 b 24 c 40 n i (lm a b c G D S T)) (fun S => lm a b c G D S T) (fun i S => LR D S T (rSinkN z i)) (rN z) (fun n i S hn hI => ?_) (fun n S hI => ?_) (rN z) 0 mFu S (by omega) (by unfold mFu; omega) (by
    have hz : rSinkN z 0 = z := by funext k; exact rSinkN_ge (by omega)
    rw [hz]; exact hL)
  · obtain ⟨S', h1, h2⟩ := hLp
    exact ⟨S', h1, h2⟩
  · have hi' := rSinkN_inv hi (n := i) (by omega)
    obtain ⟨-, -, h4, h5⟩ := hi.seg hn
    obtain ⟨-, ⟨h6, h7⟩, -⟩ := hi.set
    have hd := rDl_in hi hn
    have eN := rSinkN_N (z := z) (n := i) (by omega)
    have i8 : i < 8 := by omega
    obtain ⟨s0, s2, -⟩ := hI.2.2.1 i (by rw [eN.1]; exact hn)
    rw [rSinkN_ge (k := 3 * i) (by omega)] at s0
    rw [rSinkN_ge (k := 3 * i + 2) (by omega)] at s2
    obtain ⟨-, -, f1, -, -⟩ := thF hi' (o := i) (by omega)
    rw [rSinkN_w (by omega)] at f1
    have d3 : D 3 = z 76 := hL.1.2.2.2.1
    have hw := rWIns_in hi (nI i)
    show ∃ S', xL_tick_L121 a 10 b 24 c 40 (n + 1) (nI i) (lm a b c G D S T) = xL_tick_L121 a 10 b 24 c 40 n (nI (i + 1)) (lm a b c G D S' T) ∧ LR D S' T (rSinkN z (i + 1))
    rw [xL_tick_L121, mCk_t dk0, rD0, hL.d0 hi, if_neg (fun q => by have := (jA_nle (by omega) (by omega)).mp q; omega), lThere h3 hI hi', bs, mNm_e, f1]
    have fin : ∀ v, v = rSk z i → LR D (upd S (3 * i + 2) v) T (rSinkN z (i + 1)) := fun v hv => by
      rw [← rSinkN_succ, hv]
      exact hI.sink (by omega)
    by_cases ht : rTrIn z (nI i) = 0
    · have hw0 : rWIns z (nI i) = 0 := (rW0' hi _).mpr ht
      have hsk : rSk z i = if z (3 * i + 2) - z 76 < 0 then 0 else z (3 * i + 2) - z 76 := by unfold rSk; rw [if_pos ht]
      have e := jA_sub (x := z (3 * i + 2)) (y := z 76) (by omega) (by omega)
      rw [if_pos (show rWIns z (nI i) ≤ 0 by rw [hw0]; decide), mCk_t (sk2 i8), mCk_t dk3, mNm_e, rS2 h3 i8, rD3, s2, d3]
      by_cases h2 : z (3 * i + 2) - z 76 < 0
      · rw [if_neg (fun q => by rw [jA_le] at q; rw [jA_lt] at h2; omega), mCk_t (sk2 i8), mNm_e, wS2 h3 i8, mNm_e, jA_1]
        exact ⟨_, rfl, fin 0 (by rw [hsk, if_pos h2])⟩
      · rw [if_pos (by rw [jA_le]; rw [jA_lt] at h2; omega), if_pos (by rw [jA_le]; omega), mCk_t (sk2 i8), mNm_e, wS2 h3 i8, mNm_e, jA_1]
        exact ⟨_, rfl, fin _ (by rw [hsk, if_neg h2])⟩
    · have hw0 : ¬ rWIns z (nI i) ≤ 0 := fun q => ht ((rW0' hi _).mp (by rw [jA_le] at q; rw [jA_eq]; omega))
      have hsk : rSk z i = if 999 < z (3 * i + 2) + rWIns z (nI i) * z (3 * i) / 10 then 999 else z (3 * i + 2) + rWIns z (nI i) * z (3 * i) / 10 := by unfold rSk; rw [if_neg ht]
      have e := jA_add (x := z (3 * i + 2)) (y := rWIns z (nI i) * z (3 * i) / 10) (by omega) (by omega)
      rw [if_neg hw0, mCk_t (sk2 i8), mCk_t (sk0 i8), mNm_e, rS2 h3 i8, rS0 h3 i8, s2, s0, if_pos (by rw [jA_le]; omega)]
      by_cases h2 : 999 < z (3 * i + 2) + rWIns z (nI i) * z (3 * i) / 10
      · rw [if_neg (fun q => by rw [jA_le] at q; rw [jA_lt] at h2; omega), mCk_t (sk2 i8), mNm_e, wS2 h3 i8, mNm_e, jA_1]
        exact ⟨_, rfl, fin _ (by rw [hsk, if_pos h2])⟩
      · rw [if_pos (by rw [jA_le]; rw [jA_lt] at h2; omega), mCk_t (sk2 i8), mNm_e, wS2 h3 i8, mNm_e, jA_1]
        exact ⟨_, rfl, fin _ (by rw [hsk, if_neg h2])⟩
  · show xL_tick_L121 a 10 b 24 c 40 (n + 1) (nI (rN z)) (lm a b c G D S T) = _
    rw [xL_tick_L121, mCk_t dk0, rD0, hL.d0 hi, if_pos ((jA_nle (by omega) (by omega)).mpr (Nat.le_refl _))]
theorem lTick (h3 : l3 a b c) (hL : LR D S T z) (hi : rInv z) (hx : rX z) : ∃ D' S' T', xL_tick a 10 b 24 c 40 (lm a b c G D S T) = some (lm a b c G D' S' T') ∧ LR D' S' T' (rTick z) := by
  have hm := hi.m
  have i1 := rRnd_inv (z0 := z) (b := True) hi (k := rM z) (Nat.le_refl _)
  have m1 : rM (rRnd z True z (rM z)) = rM z := (rRnd_M hm).1
  have i2 := rRnd_inv (z0 := z) (b := False) i1 (k := rM z) (by rw [m1]; exact Nat.le_refl _)
  have x1 := rRnd_X (z0 := z) (b := True) hi hx (k := rM z) (Nat.le_refl _)
  obtain ⟨T1, g1, l1, k1⟩ := lMarks (G := G) h3 hL hi
  obtain ⟨D2, T2, g2, l2, k2⟩ := lRnd (G := G) h3 hi True (Or.inl ⟨rfl, trivial⟩) l1 hi hx rfl k1
  obtain ⟨D3, T3, g3, l3', k3⟩ := lRnd (G := G) h3 hi False (Or.inr ⟨rfl, fun q => q⟩) l2 i1 x1 m1 k2
  obtain ⟨S4, g4, l4⟩ := lSettle (G := G) h3 l3' i2
  have hL69 : xL_tick_L69 a 10 b 24 c 40 mFu 0 (lm a b c G D S T1) = some (lm a b c G D3 S T3) := by
    unfold mFu
    rw [xL_tick_L69, if_neg (by decide), g2, bs, mNm_e]
    rw [xL_tick_L69, if_neg (by decide), show (0 : Int32) + 1 = 1 by decide, g3, bs, mNm_e]
    rw [xL_tick_L69, if_pos (by decide)]
  have i4 := rSinkN_inv i2 (n := rN (rRnd z False (rRnd z True z (rM z)) (rM z))) (Nat.le_refl _)
  unfold xL_tick
  rw [g1, bs, hL69, bs, g4, bs, mCk_t dk9, mCk_t dk9, mNm_e, rD9, wD9]
  refine ⟨_, _, _, rfl, ?_⟩
  have e9 : D3 9 = rSink (rRnd z False (rRnd z True z (rM z)) (rM z)) 74 := l4.1.2.2.2.2.2.2.2.2.2
  rw [e9]
  exact l4.sc9 i4.m
theorem lSunk (hL : LR D S T z) (h3 : l3 a b c) (hi : rInv z) : xL_sunk a 10 b 24 (lm a b c G D S T) = some (rDeep z) := by
  have h12 := hi.n
  have h8 := hL.2.1
  unfold xL_sunk
  have h := lpV (fun n w i => xL_sunk_L4 a 10 b 24 n w i (lm a b c G D S T)) id (fun i => mxI (fun s => z (3 * s + 2)) i) (rN z) (by omega) (fun n i hn => ?_) (fun n => ?_)
  · rw [show xL_sunk_L4 a 10 b 24 mFu 0 0 (lm a b c G D S T) = some (rDeep z) from h, bs]
  · show xL_sunk_L4 a 10 b 24 (n + 1) _ (nI i) (lm a b c G D S T) = xL_sunk_L4 a 10 b 24 n _ (nI (i + 1)) (lm a b c G D S T)
    obtain ⟨-, s2, -⟩ := hL.2.2.1 i hn
    rw [xL_sunk_L4, mCk_t dk0, rD0, hL.d0 hi, if_neg (fun q => by have := (jA_nle (by omega) (by omega)).mp q; omega), mCk_t (sk2 (by omega)), rS2 h3 (by omega), s2, mxI]
    by_cases h2 : mxI (fun s => z (3 * s + 2)) i < z (3 * i + 2)
    · rw [if_pos h2, if_neg (fun q => by rw [jA_le] at q; rw [jA_lt] at h2; omega), mCk_t (sk2 (by omega)), mNm_e, mNm_e, jA_1]
    · rw [if_neg h2, if_pos (by rw [jA_le]; rw [jA_lt] at h2; omega), mNm_e, jA_1]
  · show xL_sunk_L4 a 10 b 24 (n + 1) _ (nI (rN z)) (lm a b c G D S T) = _
    rw [xL_sunk_L4, mCk_t dk0, rD0, hL.d0 hi, if_pos ((jA_nle (by omega) (by omega)).mpr (Nat.le_refl _))]
    rfl
theorem lSum (hL : LR D S T z) (h3 : l3 a b c) (hi : rInv z) {w : Nat} (hw : w < 9) : xL_sum (nI w) a 10 c 40 (lm a b c G D S T) = some (sumI (fun t => z (36 + 9 * t + w)) (rM z)) := by
  have hm := hi.m
  unfold xL_sum
  have h := lpV (fun n v i => xL_sum_L5 (nI w) a 10 c 40 n v i (lm a b c G D S T)) id (fun i => sumI (fun t => z (36 + 9 * t + w)) i) (rM z) (by omega) (fun n i hn => ?_) (fun n => ?_)
  · rw [show xL_sum_L5 (nI w) a 10 c 40 mFu 0 0 (lm a b c G D S T) = some (sumI (fun t => z (36 + 9 * t + w)) (rM z)) from h, bs]
  · show xL_sum_L5 (nI w) a 10 c 40 (n + 1) _ (nI i) (lm a b c G D S T) = xL_sum_L5 (nI w) a 10 c 40 n _ (nI (i + 1)) (lm a b c G D S T)
    have q := tI (t := i) (k := w) (by omega)
    rw [xL_sum_L5, mCk_t dk1, rD1, hL.d1 hi, if_neg (fun q => by have := (jA_nle (by omega) (by omega)).mp q; omega), mCk_t q.1, lm_c h3, show T (((10 : Int32) * nI i + nI w).toNatClampNeg) = z (36 + 9 * i + w) from (congrArg T q.2).trans (hL.tr hn hw), mNm_e, mNm_e, jA_1]
    rfl
  · show xL_sum_L5 (nI w) a 10 c 40 (n + 1) _ (nI (rM z)) (lm a b c G D S T) = _
    rw [xL_sum_L5, mCk_t dk1, rD1, hL.d1 hi, if_pos ((jA_nle (by omega) (by omega)).mpr (Nat.le_refl _))]
    rfl
end LTICK
/-- copy, from one row to another -/
def cpL (F Z : mR) (n : Nat) : mR := fun k => if k < n then F k else Z k
theorem lCopy {G : mM} {a d n : Nat} (had : a ≠ d) (hn : n < 1000) : xL_copy a n d n G = some (fun e k => if e = d then cpL (G a) (G d) n k else G e k) := by
  have h := lpV (fun f g i => xL_copy_L2 a n d n f i g) id (fun i => (fun e k => if e = d then cpL (G a) (G d) i k else G e k : mM)) n (by omega) (fun f i hi => ?_) (fun f => ?_)
  · unfold xL_copy
    have e0 : (fun e k => if e = d then cpL (G a) (G d) 0 k else G e k : mM) = G := by
      funext e k
      unfold cpL
      by_cases h : e = d
      · rw [if_pos h, if_neg (by omega), h]
      · rw [if_neg h]
    rw [e0] at h
    rw [show xL_copy_L2 a n d n mFu 0 G = some (fun e k => if e = d then cpL (G a) (G d) n k else G e k) from h, bs]
  · show xL_copy_L2 a n d n (f + 1) (nI i) _ = xL_copy_L2 a n d n f (nI (i + 1)) _
    rw [xL_copy_L2, if_neg (fun q => by have := (jA_nle (by omega) (by omega)).mp q; omega), mCk_t (jA_in hi (by omega)), mCk_t (jA_in hi (by omega)), mNm_e, mNm_e, jA_1, jA_clamp (by omega)]
    congr 1
    funext e k
    unfold up2
    by_cases h1 : e = d
    · subst h1
      by_cases h2 : k = i
      · rw [if_pos ⟨rfl, h2⟩, if_neg had, if_pos rfl]
        unfold cpL
        rw [h2, if_pos (by omega)]
      · rw [if_neg (fun q => h2 q.2), if_pos rfl]
        dsimp only
        rw [if_pos rfl]
        unfold cpL
        by_cases h4 : k < i
        · rw [if_pos h4, if_pos (by omega)]
        · rw [if_neg h4, if_neg (by omega)]
    · rw [if_neg (fun q => h1 q.1), if_neg h1]
      dsimp only
      rw [if_neg h1]
  · show xL_copy_L2 a n d n (f + 1) (nI n) _ = _
    rw [xL_copy_L2, if_pos ((jA_nle (by omega) (by omega)).mpr (Nat.le_refl _))]
    rfl
