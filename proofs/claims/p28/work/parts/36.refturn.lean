/-! the reference's turn, on rows; the invariant stays -/
theorem rN_upd {z : mR} {j : Nat} {v : Int32} (h : j ≠ 72) : rN (upd z j v) = rN z := by unfold rN; rw [upd_n (Ne.symm h)]
theorem rM_upd {z : mR} {j : Nat} {v : Int32} (h : j ≠ 73) : rM (upd z j v) = rM z := by unfold rM; rw [upd_n (Ne.symm h)]
/-- what a train's place may hold -/
def rOk (z : mR) (k : Nat) (v : Int32) : Prop := (k = 0 → 1 ≤ v.toInt ∧ v.toInt ≤ 6) ∧ (k = 1 → 1 ≤ v.toInt ∧ v.toInt ≤ 20) ∧ (k = 2 → 0 ≤ v.toInt ∧ v.toInt ≤ 120) ∧ (k = 3 → ∃ p, p < rN z ∧ v = nI p) ∧ (k = 4 → v = 0 ∨ v = 1)
theorem rInv_upd {z : mR} (hi : rInv z) {j : Nat} {v : Int32} (hj : (36 ≤ j ∧ j < 72) ∨ j = 74 ∨ 78 ≤ j) (hv : ∀ t k, k < 9 → j = 36 + 9 * t + k → t < rM z → rOk z k v) : rInv (upd z j v) := by
  have hn := hi.n
  have hm := hi.m
  have hN : rN (upd z j v) = rN z := rN_upd (by omega)
  have hM : rM (upd z j v) = rM z := rM_upd (by omega)
  refine ⟨by rw [hN, hM]; exact hi.1, by rw [hN, upd_n (by omega)]; exact hi.zn, by rw [hM, upd_n (by omega)]; exact hi.zm, by rw [upd_n (by omega), upd_n (by omega), upd_n (by omega)]; exact hi.set, ⟨by rw [upd_n (by omega)]; exact hi.first, by rw [hN, upd_n (by omega)]; exact hi.last⟩, fun s hs => ?_, fun t ht => ?_⟩
  · rw [hN] at hs
    rw [upd_n (by omega), upd_n (by omega), upd_n (by omega)]
    exact hi.seg hs
  · rw [hM] at ht
    obtain ⟨h0, h1, h2, ⟨h3, h3'⟩, h4⟩ := hi.tr ht
    refine ⟨?_, ?_, ?_, ?_, ?_⟩
    · by_cases e : j = 36 + 9 * t + 0
      · rw [e, upd_s]; exact (hv t 0 (by decide) e ht).1 rfl
      · rw [upd_n (Ne.symm e)]; exact h0
    · by_cases e : j = 36 + 9 * t + 1
      · rw [e, upd_s]; exact (hv t 1 (by decide) e ht).2.1 rfl
      · rw [upd_n (Ne.symm e)]; exact h1
    · by_cases e : j = 36 + 9 * t + 2
      · rw [e, upd_s]; exact (hv t 2 (by decide) e ht).2.2.1 rfl
      · rw [upd_n (Ne.symm e)]; exact h2
    · unfold rPl
      rw [hN]
      by_cases e : j = 36 + 9 * t + 3
      · obtain ⟨p, hp, rfl⟩ := (hv t 3 (by decide) e ht).2.2.2.1 rfl
        rw [e, upd_s, jA_clamp (by omega)]
        exact ⟨hp, rfl⟩
      · rw [upd_n (Ne.symm e)]; exact ⟨h3, h3'⟩
    · by_cases e : j = 36 + 9 * t + 4
      · rw [e, upd_s]; exact (hv t 4 (by decide) e ht).2.2.2.2 rfl
      · rw [upd_n (Ne.symm e)]; exact h4
/-- a train's own place -/
theorem rInv_put {z : mR} (hi : rInv z) {t k : Nat} {v : Int32} (ht : t < rM z) (hk : k < 9) (hv : rOk z k v) : rInv (upd z (36 + 9 * t + k) v) := by
  have hm := hi.m
  refine rInv_upd hi (by omega) (fun t' k' hk' e _ => ?_)
  have : k' = k := by omega
  rw [this]; exact hv
theorem rInv_sc {z : mR} (hi : rInv z) {j : Nat} {v : Int32} (hj : j = 74 ∨ 78 ≤ j) : rInv (upd z j v) := by
  have hm := hi.m
  refine rInv_upd hi (by omega) (fun t' k' hk' e h => ?_)
  omega
theorem rOk_n {z : mR} {k : Nat} {v : Int32} (h : 5 ≤ k) : rOk z k v := ⟨fun e => absurd e (by omega), fun e => absurd e (by omega), fun e => absurd e (by omega), fun e => absurd e (by omega), fun e => absurd e (by omega)⟩
theorem rOk_2 {z : mR} {v : Int32} (h : 0 ≤ v.toInt ∧ v.toInt ≤ 120) : rOk z 2 v := ⟨fun e => absurd e (by decide), fun e => absurd e (by decide), fun _ => h, fun e => absurd e (by decide), fun e => absurd e (by decide)⟩
theorem rOk_3 {z : mR} {p : Nat} (h : p < rN z) : rOk z 3 (nI p) := ⟨fun e => absurd e (by decide), fun e => absurd e (by decide), fun e => absurd e (by decide), fun _ => ⟨p, h, rfl⟩, fun e => absurd e (by decide)⟩
theorem rOk_4 {z : mR} {v : Int32} (h : v = 0 ∨ v = 1) : rOk z 4 v := ⟨fun e => absurd e (by decide), fun e => absurd e (by decide), fun e => absurd e (by decide), fun e => absurd e (by decide), fun _ => h⟩
theorem rFullB {z : mR} (hi : rInv z) {t : Nat} (ht : t < rM z) : 0 ≤ (z (36 + 9 * t + 0) * z (36 + 9 * t + 1)).toInt ∧ (z (36 + 9 * t + 0) * z (36 + 9 * t + 1)).toInt ≤ 120 := by
  obtain ⟨⟨a1, a2⟩, ⟨b1, b2⟩, -⟩ := hi.tr ht
  have h1 : 0 ≤ (z (36 + 9 * t + 0)).toInt * (z (36 + 9 * t + 1)).toInt := Int.mul_nonneg (by omega) (by omega)
  have h2 : (z (36 + 9 * t + 0)).toInt * (z (36 + 9 * t + 1)).toInt ≤ 6 * 20 := Int.mul_le_mul a2 b2 (by omega) (by omega)
  rw [jA_mul (by omega) (by omega)]
  omega
theorem rUnl_inv {z : mR} (hi : rInv z) {t : Nat} (ht : t < rM z) : rInv (rUnl z t) := by
  have hm := hi.m
  unfold rUnl
  have i1 := rInv_sc (v := z 80 + z (36 + 9 * t + 2)) hi (j := 80) (Or.inr (by decide))
  have i2 := rInv_put i1 (t := t) (k := 2) (v := 0) (by rw [rM_upd (by decide)]; exact ht) (by decide) (rOk_2 (by decide))
  have i3 := rInv_put i2 (t := t) (k := 4) (v := 0) (by rw [rM_upd (by omega), rM_upd (by decide)]; exact ht) (by decide) (rOk_4 (Or.inl rfl))
  have i4 := rInv_put i3 (t := t) (k := 5) (v := z (36 + 9 * t + 0)) (by rw [rM_upd (by omega), rM_upd (by omega), rM_upd (by decide)]; exact ht) (by decide) (rOk_n (by decide))
  exact rInv_put i4 (t := t) (k := 8) (by rw [rM_upd (by omega), rM_upd (by omega), rM_upd (by omega), rM_upd (by decide)]; exact ht) (by decide) (rOk_n (by decide))
theorem rLoad_inv {z : mR} (hi : rInv z) {t : Nat} (ht : t < rM z) : rInv (rLoad z t) := by
  have hm := hi.m
  have hb := rFullB hi ht
  unfold rLoad
  have i1 := rInv_sc (v := z 79 - z (36 + 9 * t + 0) * z (36 + 9 * t + 1)) hi (j := 79) (Or.inr (by decide))
  have i2 := rInv_put i1 (t := t) (k := 2) (v := z (36 + 9 * t + 0) * z (36 + 9 * t + 1)) (by rw [rM_upd (by decide)]; exact ht) (by decide) (rOk_2 hb)
  have i3 := rInv_put i2 (t := t) (k := 4) (v := 1) (by rw [rM_upd (by omega), rM_upd (by decide)]; exact ht) (by decide) (rOk_4 (Or.inr rfl))
  exact rInv_put i3 (t := t) (k := 5) (v := z (36 + 9 * t + 0)) (by rw [rM_upd (by omega), rM_upd (by omega), rM_upd (by decide)]; exact ht) (by decide) (rOk_n (by decide))
theorem rMove_inv {z : mR} (hi : rInv z) {t q : Nat} (ht : t < rM z) (hq : q < rN z) : rInv (rMove z t q) := by
  have hm := hi.m
  unfold rMove
  have i2 := rInv_put hi (t := t) (k := 3) (v := nI q) ht (by decide) (rOk_3 hq)
  exact rInv_put i2 (t := t) (k := 5) (by rw [rM_upd (by omega)]; exact ht) (by decide) (rOk_n (by decide))
theorem rGo_inv {z : mR} (hi : rInv z) {t : Nat} (ht : t < rM z) : rInv (rGo z t) := by
  obtain ⟨-, -, -, ⟨hp, -⟩, -⟩ := hi.tr ht
  unfold rGo
  by_cases h1 : z (36 + 9 * t + 4) = 1
  · rw [if_pos h1]
    by_cases h2 : rPl z t + 1 = rN z
    · rw [if_pos h2]; exact rUnl_inv hi ht
    · rw [if_neg h2]; exact rMove_inv hi ht (by omega)
  · rw [if_neg h1]
    by_cases h2 : rPl z t = 0
    · rw [if_pos h2]; exact rLoad_inv hi ht
    · rw [if_neg h2]; exact rMove_inv hi ht (by omega)
theorem rTurn_inv {z : mR} (hi : rInv z) {t : Nat} (ht : t < rM z) : rInv (rTurn z t) := by
  have hm := hi.m
  unfold rTurn
  by_cases h1 : z (36 + 9 * t + 5) ≤ 0
  · rw [if_pos h1]
    by_cases h2 : rReason z t = 0
    · rw [if_pos h2]
      exact rGo_inv (rInv_put hi ht (by decide) (rOk_n (by decide))) (by rw [rM_upd (by omega)]; exact ht)
    · rw [if_neg h2]
      exact rInv_put (rInv_put hi ht (by decide) (rOk_n (by decide))) (by rw [rM_upd (by omega)]; exact ht) (by decide) (rOk_n (by decide))
  · rw [if_neg h1]
    exact rInv_put (rInv_put hi ht (by decide) (rOk_n (by decide))) (by rw [rM_upd (by omega)]; exact ht) (by decide) (rOk_n (by decide))
theorem rGoR_in (z : mR) (p q f : Nat) (up : Int32) : rGoR z p q f up = 0 ∨ 0 < rGoR z p q f up := by
  unfold rGoR
  repeat' split
  all_goals first
    | exact Or.inl rfl
    | exact Or.inr (by decide)
theorem rReason_in (z : mR) (t : Nat) : rReason z t = 0 ∨ 0 < rReason z t := by
  unfold rReason
  repeat' split
  all_goals first
    | exact Or.inl rfl
    | exact Or.inr (by decide)
    | exact rGoR_in _ _ _ _ _
theorem eGo (G : mM) {z : mR} (hi : rInv z) {t : Nat} (ht : t < rM z) : x6_go (nI t) (sr G z) = some (sr G (rGo z t)) := by
  have hN := hi.n
  have hM := hi.m
  have ht5 : t < 5 := by omega
  obtain ⟨-, -, -, ⟨hp, ep⟩, hu⟩ := hi.tr ht
  unfold x6_go
  rw [oF3 G z ht5, bs, oF4 G z ht5, bs, sr_247, hi.zn, ep]
  rcases hu with hu | hu
  · have hr : rGo z t = if rPl z t = 0 then rLoad z t else rMove z t (rPl z t - 1) := by
      unfold rGo
      rw [hu, if_neg (by decide)]
    rw [hu, hr, if_neg (show ¬ (0 : Int32) = 1 by decide), if_pos (rfl : (0 : Int32) = 0), if_pos (rfl : (0 : Int32) = 0)]
    by_cases h0 : rPl z t = 0
    · rw [if_pos h0, if_pos (show nI (rPl z t) = (0 : Int32) by rw [h0]; rfl), eWanted G z ht5, bs, mNm_e, sr_up, eWanted G _ ht5, bs, pU2 G _ ht5, bs, pU4 G _ ht5, bs, oF0 G _ ht5, bs, pU5 G _ ht5, bs]
      unfold rLoad
      rw [upd_n (show 36 + 9 * t + 0 ≠ 79 by omega), upd_n (show 36 + 9 * t + 1 ≠ 79 by omega), upd_n (show 36 + 9 * t + 0 ≠ 36 + 9 * t + 4 by omega), upd_n (show 36 + 9 * t + 0 ≠ 36 + 9 * t + 2 by omega), upd_n (show 36 + 9 * t + 0 ≠ 79 by omega)]
    · rw [if_neg h0, if_neg (show ¬ nI (rPl z t) = (0 : Int32) from fun q => h0 ((jA_neq (b := 0) (by omega) (by decide)).mp q)), if_pos (rfl : (0 : Int32) = 0), mNm_e]
      obtain ⟨s, hs⟩ : ∃ s, rPl z t = s + 1 := ⟨rPl z t - 1, by omega⟩
      rw [hs, nI_pred, pU3 G _ ht5, bs, sF2 G _ (by omega), bs, pU5 G _ ht5, bs]
      unfold rMove
      rw [upd_n (show 3 * s + 2 ≠ 36 + 9 * t + 3 by omega)]
      rfl
  · have hr : rGo z t = if rPl z t + 1 = rN z then rUnl z t else rMove z t (rPl z t + 1) := by
      unfold rGo
      rw [hu, if_pos rfl]
    rw [hu, hr, if_pos (rfl : (1 : Int32) = 1), if_neg one_ne, show nI (rN z) - (1 : Int32) = nI (rN z - 1) from pk_sub (a := rN z) (b := 1) (by omega)]
    by_cases h1 : rPl z t + 1 = rN z
    · rw [if_pos h1, if_pos (show nI (rPl z t) = nI (rN z - 1) by rw [← h1]; rfl), oF2 G _ ht5, bs, mNm_e, sr_up, pU2 G _ ht5, bs, pU4 G _ ht5, bs, oF0 G _ ht5, bs, pU5 G _ ht5, bs, oF8 G _ ht5, bs, pU8 G _ ht5, bs]
      unfold rUnl
      rw [upd_n (show 36 + 9 * t + 0 ≠ 36 + 9 * t + 4 by omega), upd_n (show 36 + 9 * t + 0 ≠ 36 + 9 * t + 2 by omega), upd_n (show 36 + 9 * t + 0 ≠ 80 by omega), upd_n (show 36 + 9 * t + 8 ≠ 36 + 9 * t + 5 by omega), upd_n (show 36 + 9 * t + 8 ≠ 36 + 9 * t + 4 by omega), upd_n (show 36 + 9 * t + 8 ≠ 36 + 9 * t + 2 by omega), upd_n (show 36 + 9 * t + 8 ≠ 80 by omega)]
    · rw [if_neg h1, if_neg (show ¬ nI (rPl z t) = nI (rN z - 1) from fun q => h1 (by have := (jA_neq (by omega) (by omega)).mp q; omega)), if_neg one_ne, if_neg one_ne, mNm_e, jA_1, pU3 G _ ht5, bs, sF2 G _ (show rPl z t + 1 < 27 by omega), bs, pU5 G _ ht5, bs]
      unfold rMove
      rw [upd_n (show 3 * (rPl z t + 1) + 2 ≠ 36 + 9 * t + 3 by omega)]
theorem eTurn (G : mM) {z : mR} (hi : rInv z) {t : Nat} (ht : t < rM z) : x6_turn (nI t) (sr G z) = some (sr G (rTurn z t)) := by
  have hM := hi.m
  have ht5 : t < 5 := by omega
  unfold x6_turn rTurn
  rw [oF5 G z ht5, bs]
  by_cases h1 : z (36 + 9 * t + 5) ≤ 0
  · rw [if_pos h1, if_pos h1, eReason G hi ht, bs, pU6 G _ ht5, bs, oF7 G _ ht5, bs]
    rcases rReason_in z t with hr | hr
    · have e7 : (0 : Int32) ≤ 0 := by decide
      rw [hr, if_pos e7, if_pos (rfl : (0 : Int32) = 0), pU7 G _ ht5, bs, Int32.add_zero, upd_same rfl, if_pos h1, if_pos (rfl : (0 : Int32) = 0), eGo G (rInv_put hi ht (by decide) (rOk_n (by decide))) (by rw [rM_upd (by omega)]; exact ht), bs]
    · have e8 : ¬ rReason z t = 0 := fun e => by rw [e] at hr; exact absurd hr (by decide)
      have e9 : ¬ rReason z t ≤ 0 := fun e => by rw [jA_le] at e; rw [jA_lt] at hr; omega
      rw [if_neg e9, if_neg e8, pU7 G _ ht5, bs, if_pos h1, if_neg e8, upd_n (show 36 + 9 * t + 7 ≠ 36 + 9 * t + 6 by omega)]
  · rw [if_neg h1, if_neg h1, pU6 G _ ht5, bs, oF7 G _ ht5, bs, if_pos (show (0 : Int32) ≤ 0 by decide), pU7 G _ ht5, bs, Int32.add_zero, upd_same rfl, if_neg h1, pU5 G _ ht5, bs]
