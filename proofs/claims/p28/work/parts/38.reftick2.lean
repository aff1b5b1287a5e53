/-! the rounds and the tick -/
theorem rGo_k {z : mR} {t j : Nat} (ht : t < 4) (hj : j < 36 ∨ (72 ≤ j ∧ j ≤ 78) ∨ 81 ≤ j) : rGo z t j = z j := by
  unfold rGo rUnl rLoad rMove
  repeat' split
  all_goals repeat rw [upd_n (by omega)]
theorem rTurn_k {z : mR} {t j : Nat} (ht : t < 4) (hj : j < 36 ∨ (72 ≤ j ∧ j ≤ 78) ∨ 81 ≤ j) : rTurn z t j = z j := by
  unfold rTurn
  split
  · split
    · rw [rGo_k ht hj, upd_n (by omega)]
    · rw [upd_n (by omega), upd_n (by omega)]
  · rw [upd_n (by omega), upd_n (by omega)]
/-- what was delivered grows by what one train holds, at most -/
theorem rTurn_80 {z : mR} (hi : rInv z) {t : Nat} (ht : t < rM z) {B : Int} (hB : B < 2000000000) (h : 0 ≤ (z 80).toInt ∧ (z 80).toInt ≤ B) : 0 ≤ (rTurn z t 80).toInt ∧ (rTurn z t 80).toInt ≤ B + 120 := by
  have hm := hi.m
  obtain ⟨-, -, ⟨b1, b2⟩, -⟩ := hi.tr ht
  have key : ∀ w : mR, w 80 = z 80 → w (36 + 9 * t + 2) = z (36 + 9 * t + 2) → 0 ≤ (rGo w t 80).toInt ∧ (rGo w t 80).toInt ≤ B + 120 := by
    intro w e1 e2
    unfold rGo rUnl rLoad rMove
    repeat' split
    · rw [upd_n (by omega), upd_n (by omega), upd_n (by omega), upd_n (by omega), upd_s, e1, e2, jA_add (by omega) (by omega)]
      omega
    · rw [upd_n (by omega), upd_n (by omega), e1]; omega
    · rw [upd_n (by omega), upd_n (by omega), upd_n (by omega), upd_n (by omega), e1]; omega
    · rw [upd_n (by omega), upd_n (by omega), e1]; omega
  unfold rTurn
  split
  · split
    · exact key _ (upd_n (by omega)) (upd_n (by omega))
    · rw [upd_n (by omega), upd_n (by omega)]; omega
  · rw [upd_n (by omega), upd_n (by omega)]; omega
theorem rRnd_k {z0 z : mR} {b : Prop} [Decidable b] {j : Nat} (hj : j < 36 ∨ (72 ≤ j ∧ j ≤ 78) ∨ 81 ≤ j) : ∀ {k : Nat}, k ≤ 4 → rRnd z0 b z k j = z j
  | 0, _ => rfl
  | k + 1, h => by
    unfold rRnd
    split
    · rw [rTurn_k (by omega) hj, rRnd_k hj (by omega)]
    · exact rRnd_k hj (by omega)
theorem rRnd_M {z0 z : mR} {b : Prop} [Decidable b] {k : Nat} (h : k ≤ 4) : rM (rRnd z0 b z k) = rM z ∧ rN (rRnd z0 b z k) = rN z := by
  unfold rM rN
  rw [rRnd_k (by omega) h, rRnd_k (by omega) h]
  exact ⟨rfl, rfl⟩
theorem rRnd_inv {z0 z : mR} {b : Prop} [Decidable b] (hi : rInv z) : ∀ {k : Nat}, k ≤ rM z → rInv (rRnd z0 b z k)
  | 0, _ => hi
  | k + 1, h => by
    have hm := hi.m
    unfold rRnd
    split
    · exact rTurn_inv (rRnd_inv hi (by omega)) (by rw [(rRnd_M (by omega)).1]; omega)
    · exact rRnd_inv hi (by omega)
theorem rRnd_80 {z0 z : mR} {b : Prop} [Decidable b] (hi : rInv z) {B : Int} (hB : B < 1000000000) (h0 : 0 ≤ (z 80).toInt ∧ (z 80).toInt ≤ B) : ∀ {k : Nat}, k ≤ rM z → 0 ≤ (rRnd z0 b z k 80).toInt ∧ (rRnd z0 b z k 80).toInt ≤ B + 120 * (k : Int)
  | 0, _ => by unfold rRnd; omega
  | k + 1, h => by
    have hm := hi.m
    have ih := rRnd_80 (z0 := z0) (b := b) hi hB h0 (k := k) (by omega)
    unfold rRnd
    split
    · have := rTurn_80 (rRnd_inv (z0 := z0) (b := b) hi (k := k) (by omega)) (t := k) (by rw [(rRnd_M (by omega)).1]; omega) (B := B + 120 * (k : Int)) (by omega) ih
      omega
    · omega
/-- the bits of those that go up -/
theorem maskL (u : Nat → Int32) {m t : Nat} (hm : m ≤ 4) (ht : t < m) (hu : ∀ i, i < m → u i = 0 ∨ u i = 1) : (orI (fun i => u i <<< (nI i &&& 31)) m >>> (nI t &&& 31)) &&& 1 = u t := by
  match m, hm with
  | 0, _ => omega
  | 1, _ =>
    have h0 := hu 0 (by decide)
    obtain rfl : t = 0 := by omega
    simp only [orI]
    rcases h0 with h0 | h0 <;> rw [h0] <;> decide
  | 2, _ =>
    have h0 := hu 0 (by decide)
    have h1 := hu 1 (by decide)
    simp only [orI]
    rcases (show t = 0 ∨ t = 1 by omega) with rfl | rfl <;> rcases h0 with h0 | h0 <;> rcases h1 with h1 | h1 <;> rw [h0, h1] <;> decide
  | 3, _ =>
    have h0 := hu 0 (by decide)
    have h1 := hu 1 (by decide)
    have h2 := hu 2 (by decide)
    simp only [orI]
    rcases (show t = 0 ∨ t = 1 ∨ t = 2 by omega) with rfl | rfl | rfl <;> rcases h0 with h0 | h0 <;> rcases h1 with h1 | h1 <;> rcases h2 with h2 | h2 <;> rw [h0, h1, h2] <;> decide
  | 4, _ =>
    have h0 := hu 0 (by decide)
    have h1 := hu 1 (by decide)
    have h2 := hu 2 (by decide)
    have h3 := hu 3 (by decide)
    simp only [orI]
    rcases (show t = 0 ∨ t = 1 ∨ t = 2 ∨ t = 3 by omega) with rfl | rfl | rfl | rfl <;> rcases h0 with h0 | h0 <;> rcases h1 with h1 | h1 <;> rcases h2 with h2 | h2 <;> rcases h3 with h3 | h3 <;> rw [h0, h1, h2, h3] <;> decide
def rMask (z : mR) : Int32 := orI (fun i => z (36 + 9 * i + 4) <<< (nI i &&& 31)) (rM z)
theorem eMask (G : mM) {z : mR} (hi : rInv z) : x6_tick_L4 mFu 0 0 (sr G z) = some (rMask z) := by
  have hm := hi.m
  have h := lpV (fun n w i => x6_tick_L4 n w i (sr G z)) id (fun k => orI (fun i => z (36 + 9 * i + 4) <<< (nI i &&& 31)) k) (rM z) (by omega) (fun n i hn => ?_) (fun n => ?_)
  · exact h
  · show x6_tick_L4 (n + 1) _ (nI i) (sr G z) = x6_tick_L4 n _ (nI (i + 1)) (sr G z)
    rw [x6_tick_L4, sr_247, hi.zm, if_neg (fun q => by have := (jA_nle (by omega) (by omega)).mp q; omega), oF4 G z (by omega), bs, orI, mNm_e, mNm_e, jA_1]
  · show x6_tick_L4 (n + 1) _ (nI (rM z)) (sr G z) = _
    rw [x6_tick_L4, sr_247, hi.zm, if_pos ((jA_nle (by omega) (by omega)).mpr (Nat.le_refl _))]
    rfl
/-- one train in a round -/
theorem eRndStep (G : mM) {z0 w : mR} (hi0 : rInv z0) (b : Prop) [Decidable b] {y : Int32} (hy : (y = 0 ∧ b) ∨ (y = 1 ∧ ¬ b)) (hw : rInv w) (hM : rM w = rM z0) {t n : Nat} (ht : t < rM z0) : x6_tick_L48 (rMask z0) (z0 77) y (n + 1) (nI t) (sr G w) = x6_tick_L48 (rMask z0) (z0 77) y n (nI (t + 1)) (sr G (if (rFirst z0 t ↔ b) then rTurn w t else w)) := by
  have hm := hi0.m
  obtain ⟨-, -, -, -, hu⟩ := hi0.tr ht
  have hbit : (rMask z0 >>> (nI t &&& 31)) &&& 1 = z0 (36 + 9 * t + 4) := maskL (fun i => z0 (36 + 9 * i + 4)) hm ht (fun i h => (hi0.tr h).2.2.2.2)
  obtain ⟨-, -, hr⟩ := hi0.set
  rw [x6_tick_L48, sr_247, hw.zm, hM, if_neg (fun q => by have := (jA_nle (by omega) (by omega)).mp q; omega)]
  have hT := eTurn G hw (t := t) (by omega)
  have d01 : ¬ (0 : Int32) = 1 := by decide
  have d02 : ¬ (0 : Int32) = 2 := by decide
  have d12 : ¬ (1 : Int32) = 2 := by decide
  have d20 : ¬ (2 : Int32) = 0 := by decide
  have d21 : ¬ (2 : Int32) = 1 := by decide
  have s10 : (1 : Int32) - 0 = 1 := by decide
  have s11 : (1 : Int32) - 1 = 0 := by decide
  rcases hr with hr | hr | hr
  · rw [if_neg (show ¬ z0 77 = 2 by rw [hr]; exact d02), if_pos hr, mNm_e, hbit]
    have hF : rFirst z0 t ↔ z0 (36 + 9 * t + 4) = 1 := by unfold rFirst; rw [hr]; simp [d02, d01]
    rcases hu with hu | hu <;> rcases hy with ⟨rfl, hb⟩ | ⟨rfl, hb⟩
    · rw [if_neg (show ¬ z0 (36 + 9 * t + 4) = 1 - 0 by rw [hu]; decide), if_neg (fun q => by rw [hF, hu] at q; exact d01 (q.mpr hb)), mNm_e, jA_1]
    · rw [if_pos (show z0 (36 + 9 * t + 4) = 1 - 1 by rw [hu]; decide), hT, bs, if_pos (by rw [hF, hu]; exact ⟨fun q => absurd q d01, fun q => absurd q hb⟩), mNm_e, jA_1]
    · rw [if_pos (show z0 (36 + 9 * t + 4) = 1 - 0 by rw [hu]; decide), hT, bs, if_pos (by rw [hF, hu]; exact ⟨fun _ => hb, fun _ => rfl⟩), mNm_e, jA_1]
    · rw [if_neg (show ¬ z0 (36 + 9 * t + 4) = 1 - 1 by rw [hu]; decide), if_neg (fun q => by rw [hF, hu] at q; exact hb (q.mp rfl)), mNm_e, jA_1]
  · rw [if_neg (show ¬ z0 77 = 2 by rw [hr]; exact d12), if_neg (show ¬ z0 77 = 0 by rw [hr]; exact one_ne), hbit, mNm_e]
    have hF : rFirst z0 t ↔ z0 (36 + 9 * t + 4) = 0 := by unfold rFirst; rw [hr]; simp [d12, one_ne]
    rcases hu with hu | hu <;> rcases hy with ⟨rfl, hb⟩ | ⟨rfl, hb⟩
    · rw [if_pos (show 1 - z0 (36 + 9 * t + 4) = 1 - 0 by rw [hu]), hT, bs, if_pos (by rw [hF, hu]; exact ⟨fun _ => hb, fun _ => rfl⟩), mNm_e, jA_1]
    · rw [if_neg (show ¬ 1 - z0 (36 + 9 * t + 4) = 1 - 1 by rw [hu]; decide), if_neg (fun q => by rw [hF, hu] at q; exact hb (q.mp rfl)), mNm_e, jA_1]
    · rw [if_neg (show ¬ 1 - z0 (36 + 9 * t + 4) = 1 - 0 by rw [hu]; decide), if_neg (fun q => by rw [hF, hu] at q; exact one_ne (q.mpr hb)), mNm_e, jA_1]
    · rw [if_pos (show 1 - z0 (36 + 9 * t + 4) = 1 - 1 by rw [hu]), hT, bs, if_pos (by rw [hF, hu]; exact ⟨fun q => absurd q one_ne, fun q => absurd q hb⟩), mNm_e, jA_1]
  · rw [if_pos hr]
    have hF : rFirst z0 t := Or.inl hr
    rcases hy with ⟨rfl, hb⟩ | ⟨rfl, hb⟩
    · rw [if_pos (show (1 : Int32) = 1 - 0 by decide), hT, bs, if_pos ⟨fun _ => hb, fun _ => hF⟩, mNm_e, jA_1]
    · rw [if_neg (show ¬ (1 : Int32) = 1 - 1 by decide), if_neg (fun q => hb (q.mp hF)), mNm_e, jA_1]
theorem eRnd (G : mM) {z0 z : mR} (hi0 : rInv z0) (b : Prop) [Decidable b] {y : Int32} (hy : (y = 0 ∧ b) ∨ (y = 1 ∧ ¬ b)) (hi : rInv z) (hM : rM z = rM z0) : x6_tick_L48 (rMask z0) (z0 77) y mFu 0 (sr G z) = some (sr G (rRnd z0 b z (rM z0))) := by
  have hm := hi0.m
  have h := lpV (fun n a i => x6_tick_L48 (rMask z0) (z0 77) y n i a) id (fun k => sr G (rRnd z0 b z k)) (rM z0) (by omega) (fun n i hn => ?_) (fun n => ?_)
  · exact h
  · show x6_tick_L48 _ _ y (n + 1) (nI i) (sr G (rRnd z0 b z i)) = _
    rw [eRndStep G hi0 b hy (rRnd_inv hi (by omega)) (by rw [(rRnd_M (by omega)).1, hM]) hn]
    rfl
  · show x6_tick_L48 _ _ y (n + 1) (nI (rM z0)) (sr G (rRnd z0 b z (rM z0))) = _
    rw [x6_tick_L48, sr_247, (rRnd_inv (z0 := z0) (b := b) hi (k := rM z0) (by omega)).zm, (rRnd_M (by omega)).1, hM, if_pos ((jA_nle (by omega) (by omega)).mpr (Nat.le_refl _))]
    rfl
theorem rTick_inv {z : mR} (hi : rInv z) : rInv (rTick z) := by
  have hm := hi.m
  have i1 := rRnd_inv (z0 := z) (b := True) hi (k := rM z) (Nat.le_refl _)
  have i2 := rRnd_inv (z0 := z) (b := False) i1 (k := rM z) (by rw [(rRnd_M hm).1]; exact Nat.le_refl _)
  exact rInv_sc (rSinkN_inv i2 (Nat.le_refl _)) (Or.inl rfl)
theorem eTick (G : mM) {z : mR} (hi : rInv z) : x6_tick (sr G z) = some (sr G (rTick z)) := by
  have hm := hi.m
  have i1 := rRnd_inv (z0 := z) (b := True) hi (k := rM z) (Nat.le_refl _)
  have m1 : rM (rRnd z True z (rM z)) = rM z := (rRnd_M hm).1
  have i2 := rRnd_inv (z0 := z) (b := False) i1 (k := rM z) (by rw [m1]; exact Nat.le_refl _)
  have hL : x6_tick_L40 (rMask z) (z 77) mFu 0 (sr G z) = some (sr G (rRnd z False (rRnd z True z (rM z)) (rM z))) := by
    unfold mFu
    rw [x6_tick_L40, if_neg (by decide), eRnd G hi True (Or.inl ⟨rfl, trivial⟩) hi rfl, bs, mNm_e]
    rw [x6_tick_L40, if_neg (by decide), eRnd G hi False (Or.inr ⟨by decide, fun q => q⟩) i1 m1, bs, mNm_e]
    rw [x6_tick_L40, if_pos (by decide)]
  unfold x6_tick
  rw [eMask G hi, bs, oT2, bs, hL, bs, eSink G i2, bs, mNm_e, sr_247, sr_up]
  rfl
