/-! THE LAW'S turn -/
/-- a train that comes back carries nothing -/
def rEx (z : mR) : Prop := ∀ t, t < rM z → z (36 + 9 * t + 4) = 0 → z (36 + 9 * t + 2) = 0
section LTURN
variable {a b c : Nat} {G : mM} {D S T z : mR}
set_option maxHeartbeats 4000000 in
theorem lTurn (h3 : l3 a b c) (hL : LR D S T z) (hi : rInv z) (hx : rEx z) {t : Nat} (ht : t < rM z) : ∃ D' T', xL_turn (nI t) a 10 b 24 c 40 (lm a b c G D S T) = some (lm a b c G D' S T') ∧ LR D' S T' (rTurn z t) ∧ ∀ u, T' (10 * u + 9) = T (10 * u + 9) := by
  have hN := hi.n
  have hM := hi.m
  have h8 := hL.2.1
  have ht4 : t < 4 := by omega
  obtain ⟨-, -, -, ⟨hp, ep⟩, hu⟩ := hi.tr ht
  have t0 : T (10 * t) = z (36 + 9 * t + 0) := hL.tr0 ht
  have t1 : T (10 * t + 1) = z (36 + 9 * t + 1) := hL.tr ht (by decide)
  have t2 : T (10 * t + 2) = z (36 + 9 * t + 2) := hL.tr ht (by decide)
  have t3 : T (10 * t + 3) = nI (rPl z t) := (hL.tr ht (by decide)).trans ep
  have t4 : T (10 * t + 4) = z (36 + 9 * t + 4) := hL.tr ht (by decide)
  have t5 : T (10 * t + 5) = z (36 + 9 * t + 5) := hL.tr ht (by decide)
  have t6 : T (10 * t + 6) = z (36 + 9 * t + 6) := hL.tr ht (by decide)
  have t7 : T (10 * t + 7) = z (36 + 9 * t + 7) := hL.tr ht (by decide)
  have t8 : T (10 * t + 8) = z (36 + 9 * t + 8) := hL.tr ht (by decide)
  have d6 : D 6 = z 79 := hL.1.2.2.2.2.2.2.1
  have d7 : D 7 = z 80 := hL.1.2.2.2.2.2.2.2.1
  have d0 : D 0 = nI (rN z) := hL.d0 hi
  have hm1 : ∀ (w : mR) j v, j ≠ 73 → rM (upd w j v) = rM w := fun w j v h => rM_upd h
  unfold xL_turn
  rw [mNm_e, mCk_t (tk5 ht4), rT5 h3 ht4, t5]
  by_cases r0 : z (36 + 9 * t + 5) ≤ 0
  · have eT : rTurn z t = if rReason z t = 0 then rGo (upd z (36 + 9 * t + 6) 0) t else upd (upd z (36 + 9 * t + 6) (rReason z t)) (36 + 9 * t + 7) (z (36 + 9 * t + 7) + 1) := by unfold rTurn; rw [if_pos r0]
    rw [if_pos r0, lWhy h3 hL hi ht, bs, mCk_t (tk6 ht4), mNm_e, wT6 h3 ht4, eT]
    have L6 : ∀ v, LR D S (upd T (10 * t + 6) v) (upd z (36 + 9 * t + 6) v) := fun v => hL.put hM ht (by decide)
    rcases rReason_in z t with hr | hr
    · rw [hr, if_pos (show (0 : Int32) ≤ 0 by decide), if_pos (rfl : (0 : Int32) = 0)]
      have eP : rPl (upd z (36 + 9 * t + 6) 0) t = rPl z t := by unfold rPl; rw [upd_n (by omega)]
      have eN : rN (upd z (36 + 9 * t + 6) 0) = rN z := rN_upd (by omega)
      have eU : upd z (36 + 9 * t + 6) 0 (36 + 9 * t + 4) = z (36 + 9 * t + 4) := upd_n (by omega)
      unfold rGo
      rw [eP, eN, eU]
      rw [mCk_t (tk4 ht4), rT4 h3 ht4, ru (by decide), t4]
      rcases hu with hu | hu
      · rw [hu, if_neg (show ¬ (0 : Int32) = 1 by decide), if_neg (show ¬ (0 : Int32) = 1 by decide), mCk_t (tk3 ht4), rT3 h3 ht4, ru (by decide), t3]
        by_cases p0 : rPl z t = 0
        · have hx2 := hx t ht hu
          rw [if_pos (show nI (rPl z t) = (0 : Int32) by rw [p0]; rfl), if_pos p0]
          simp only [mCk_t dk0, mCk_t dk6, mCk_t dk7, mCk_t (tk0 ht4), mCk_t (tk1 ht4), mCk_t (tk2 ht4), mCk_t (tk3 ht4), mCk_t (tk4 ht4), mCk_t (tk5 ht4), mCk_t (tk6 ht4), mCk_t (tk7 ht4), mCk_t (tk8 ht4), mNm_e, rT0 h3 ht4, wT0 h3 ht4, rT1 h3 ht4, wT1 h3 ht4, rT2 h3 ht4, wT2 h3 ht4, rT3 h3 ht4, wT3 h3 ht4, rT4 h3 ht4, wT4 h3 ht4, rT5 h3 ht4, wT5 h3 ht4, rT6 h3 ht4, wT6 h3 ht4, rT7 h3 ht4, wT7 h3 ht4, rT8 h3 ht4, wT8 h3 ht4, rD6, wD6, rD7, wD7, rD0]
          simp only [upd_s, ru (show (1 : Nat) ≠ 6 by decide), ru (show (1 : Nat) ≠ 8 by decide), ru (show (1 : Nat) ≠ 2 by decide), ru (show (1 : Nat) ≠ 4 by decide), ru (show (1 : Nat) ≠ 3 by decide), ru (show (2 : Nat) ≠ 6 by decide), ru (show (2 : Nat) ≠ 8 by decide), ru (show (2 : Nat) ≠ 4 by decide), ru (show (2 : Nat) ≠ 3 by decide), ru (show (3 : Nat) ≠ 6 by decide), ru (show (3 : Nat) ≠ 8 by decide), ru (show (3 : Nat) ≠ 2 by decide), ru (show (3 : Nat) ≠ 4 by decide), ru (show (4 : Nat) ≠ 6 by decide), ru (show (4 : Nat) ≠ 8 by decide), ru (show (4 : Nat) ≠ 2 by decide), ru (show (4 : Nat) ≠ 3 by decide), ru (show (8 : Nat) ≠ 6 by decide), ru (show (8 : Nat) ≠ 2 by decide), ru (show (8 : Nat) ≠ 4 by decide), ru (show (8 : Nat) ≠ 3 by decide), ru0 (show 0 < 6 by decide), ru0 (show 0 < 8 by decide), ru0 (show 0 < 2 by decide), ru0 (show 0 < 4 by decide), ru0 (show 0 < 3 by decide), upd_n (show (6 : Nat) ≠ 7 by decide)]
          rw [t0, t1, t2, t8, d6, d7, hx2, Int32.add_zero, Int32.add_zero]
          refine ⟨_, _, rfl, ⟨LRq.e ((((((hL.q.put hM ht (k := 6) (by decide)).sc7 hM).put hM ht (k := 8) (by decide)).put hM ht (k := 2) (by decide)).sc6 hM).put hM ht (k := 4) (by decide) |>.put hM ht (k := 5) (by decide)) ?_, fun u => by repeat rw [upd_n (by omega)]⟩⟩
          · funext j
            simp only [rLoad, upd]
            repeat' split
            all_goals first
              | rfl
              | (exfalso; omega)
              | (congr 1; omega)
        · rw [if_neg p0, if_neg (show ¬ nI (rPl z t) = (0 : Int32) from fun q => p0 ((jA_neq (b := 0) (by omega) (by decide)).mp q))]
          simp only [mCk_t dk0, mCk_t dk6, mCk_t dk7, mCk_t (tk0 ht4), mCk_t (tk1 ht4), mCk_t (tk2 ht4), mCk_t (tk3 ht4), mCk_t (tk4 ht4), mCk_t (tk5 ht4), mCk_t (tk6 ht4), mCk_t (tk7 ht4), mCk_t (tk8 ht4), mNm_e, rT0 h3 ht4, wT0 h3 ht4, rT1 h3 ht4, wT1 h3 ht4, rT2 h3 ht4, wT2 h3 ht4, rT3 h3 ht4, wT3 h3 ht4, rT4 h3 ht4, wT4 h3 ht4, rT5 h3 ht4, wT5 h3 ht4, rT6 h3 ht4, wT6 h3 ht4, rT7 h3 ht4, wT7 h3 ht4, rT8 h3 ht4, wT8 h3 ht4, rD6, wD6, rD7, wD7, rD0]
          simp only [upd_s, ru (show (1 : Nat) ≠ 6 by decide), ru (show (1 : Nat) ≠ 8 by decide), ru (show (1 : Nat) ≠ 2 by decide), ru (show (1 : Nat) ≠ 4 by decide), ru (show (1 : Nat) ≠ 3 by decide), ru (show (2 : Nat) ≠ 6 by decide), ru (show (2 : Nat) ≠ 8 by decide), ru (show (2 : Nat) ≠ 4 by decide), ru (show (2 : Nat) ≠ 3 by decide), ru (show (3 : Nat) ≠ 6 by decide), ru (show (3 : Nat) ≠ 8 by decide), ru (show (3 : Nat) ≠ 2 by decide), ru (show (3 : Nat) ≠ 4 by decide), ru (show (4 : Nat) ≠ 6 by decide), ru (show (4 : Nat) ≠ 8 by decide), ru (show (4 : Nat) ≠ 2 by decide), ru (show (4 : Nat) ≠ 3 by decide), ru (show (8 : Nat) ≠ 6 by decide), ru (show (8 : Nat) ≠ 2 by decide), ru (show (8 : Nat) ≠ 4 by decide), ru (show (8 : Nat) ≠ 3 by decide), ru0 (show 0 < 6 by decide), ru0 (show 0 < 8 by decide), ru0 (show 0 < 2 by decide), ru0 (show 0 < 4 by decide), ru0 (show 0 < 3 by decide), upd_n (show (6 : Nat) ≠ 7 by decide)]
          rw [show nI (rPl z t) + (-1) = nI (rPl z t - 1) from (by obtain ⟨u, hu'⟩ : ∃ u, rPl z t = u + 1 := ⟨rPl z t - 1, by omega⟩; rw [hu']; exact pk_m1 u)]
          simp only [mCk_t (sk2 (show rPl z t - 1 < 8 by omega)), rS2 h3 (show rPl z t - 1 < 8 by omega)]
          rw [(hL.2.2.1 (rPl z t - 1) (by omega)).2.1]
          refine ⟨_, _, rfl, ⟨LRq.e ((((hL.q.put hM ht (k := 6) (by decide)).put hM ht (k := 3) (by decide)).put hM ht (k := 5) (by decide))) ?_, fun u => by repeat rw [upd_n (by omega)]⟩⟩
          · funext j
            simp only [rMove, upd]
            repeat' split
            all_goals first
              | rfl
              | (exfalso; omega)
              | (congr 1; omega)
      · rw [hu, if_pos (show (1 : Int32) = 1 from rfl), if_pos (show (1 : Int32) = 1 from rfl), mCk_t (tk3 ht4), rT3 h3 ht4, ru (by decide), t3, mCk_t dk0, rD0, d0, show nI (rN z) - (1 : Int32) = nI (rN z - 1) from pk_sub (a := rN z) (b := 1) (by omega)]
        by_cases p1 : rPl z t + 1 = rN z
        · rw [if_pos p1, if_pos (show nI (rPl z t) = nI (rN z - 1) by rw [← p1]; rfl)]
          simp only [mCk_t dk0, mCk_t dk6, mCk_t dk7, mCk_t (tk0 ht4), mCk_t (tk1 ht4), mCk_t (tk2 ht4), mCk_t (tk3 ht4), mCk_t (tk4 ht4), mCk_t (tk5 ht4), mCk_t (tk6 ht4), mCk_t (tk7 ht4), mCk_t (tk8 ht4), mNm_e, rT0 h3 ht4, wT0 h3 ht4, rT1 h3 ht4, wT1 h3 ht4, rT2 h3 ht4, wT2 h3 ht4, rT3 h3 ht4, wT3 h3 ht4, rT4 h3 ht4, wT4 h3 ht4, rT5 h3 ht4, wT5 h3 ht4, rT6 h3 ht4, wT6 h3 ht4, rT7 h3 ht4, wT7 h3 ht4, rT8 h3 ht4, wT8 h3 ht4, rD6, wD6, rD7, wD7, rD0]
          simp only [upd_s, ru (show (1 : Nat) ≠ 6 by decide), ru (show (1 : Nat) ≠ 8 by decide), ru (show (1 : Nat) ≠ 2 by decide), ru (show (1 : Nat) ≠ 4 by decide), ru (show (1 : Nat) ≠ 3 by decide), ru (show (2 : Nat) ≠ 6 by decide), ru (show (2 : Nat) ≠ 8 by decide), ru (show (2 : Nat) ≠ 4 by decide), ru (show (2 : Nat) ≠ 3 by decide), ru (show (3 : Nat) ≠ 6 by decide), ru (show (3 : Nat) ≠ 8 by decide), ru (show (3 : Nat) ≠ 2 by decide), ru (show (3 : Nat) ≠ 4 by decide), ru (show (4 : Nat) ≠ 6 by decide), ru (show (4 : Nat) ≠ 8 by decide), ru (show (4 : Nat) ≠ 2 by decide), ru (show (4 : Nat) ≠ 3 by decide), ru (show (8 : Nat) ≠ 6 by decide), ru (show (8 : Nat) ≠ 2 by decide), ru (show (8 : Nat) ≠ 4 by decide), ru (show (8 : Nat) ≠ 3 by decide), ru0 (show 0 < 6 by decide), ru0 (show 0 < 8 by decide), ru0 (show 0 < 2 by decide), ru0 (show 0 < 4 by decide), ru0 (show 0 < 3 by decide), upd_n (show (6 : Nat) ≠ 7 by decide)]
          rw [t0, t2, t8, d6, d7, Int32.sub_zero]
          refine ⟨_, _, rfl, ⟨LRq.e ((((((hL.q.put hM ht (k := 6) (by decide)).sc7 hM).put hM ht (k := 8) (by decide)).put hM ht (k := 2) (by decide)).sc6 hM).put hM ht (k := 4) (by decide) |>.put hM ht (k := 5) (by decide)) ?_, fun u => by repeat rw [upd_n (by omega)]⟩⟩
          · funext j
            simp only [rUnl, upd]
            repeat' split
            all_goals first
              | rfl
              | (exfalso; omega)
              | (congr 1; omega)
        · rw [if_neg p1, if_neg (show ¬ nI (rPl z t) = nI (rN z - 1) from fun q => p1 (by have := (jA_neq (by omega) (by omega)).mp q; omega))]
          simp only [mCk_t dk0, mCk_t dk6, mCk_t dk7, mCk_t (tk0 ht4), mCk_t (tk1 ht4), mCk_t (tk2 ht4), mCk_t (tk3 ht4), mCk_t (tk4 ht4), mCk_t (tk5 ht4), mCk_t (tk6 ht4), mCk_t (tk7 ht4), mCk_t (tk8 ht4), mNm_e, rT0 h3 ht4, wT0 h3 ht4, rT1 h3 ht4, wT1 h3 ht4, rT2 h3 ht4, wT2 h3 ht4, rT3 h3 ht4, wT3 h3 ht4, rT4 h3 ht4, wT4 h3 ht4, rT5 h3 ht4, wT5 h3 ht4, rT6 h3 ht4, wT6 h3 ht4, rT7 h3 ht4, wT7 h3 ht4, rT8 h3 ht4, wT8 h3 ht4, rD6, wD6, rD7, wD7, rD0]
          simp only [upd_s, ru (show (1 : Nat) ≠ 6 by decide), ru (show (1 : Nat) ≠ 8 by decide), ru (show (1 : Nat) ≠ 2 by decide), ru (show (1 : Nat) ≠ 4 by decide), ru (show (1 : Nat) ≠ 3 by decide), ru (show (2 : Nat) ≠ 6 by decide), ru (show (2 : Nat) ≠ 8 by decide), ru (show (2 : Nat) ≠ 4 by decide), ru (show (2 : Nat) ≠ 3 by decide), ru (show (3 : Nat) ≠ 6 by decide), ru (show (3 : Nat) ≠ 8 by decide), ru (show (3 : Nat) ≠ 2 by decide), ru (show (3 : Nat) ≠ 4 by decide), ru (show (4 : Nat) ≠ 6 by decide), ru (show (4 : Nat) ≠ 8 by decide), ru (show (4 : Nat) ≠ 2 by decide), ru (show (4 : Nat) ≠ 3 by decide), ru (show (8 : Nat) ≠ 6 by decide), ru (show (8 : Nat) ≠ 2 by decide), ru (show (8 : Nat) ≠ 4 by decide), ru (show (8 : Nat) ≠ 3 by decide), ru0 (show 0 < 6 by decide), ru0 (show 0 < 8 by decide), ru0 (show 0 < 2 by decide), ru0 (show 0 < 4 by decide), ru0 (show 0 < 3 by decide), upd_n (show (6 : Nat) ≠ 7 by decide)]
          rw [show nI (rPl z t) + 1 = nI (rPl z t + 1) from jA_1 _]
          simp only [mCk_t (sk2 (show rPl z t + 1 < 8 by omega)), rS2 h3 (show rPl z t + 1 < 8 by omega)]
          rw [(hL.2.2.1 (rPl z t + 1) (by omega)).2.1]
          refine ⟨_, _, rfl, ⟨LRq.e ((((hL.q.put hM ht (k := 6) (by decide)).put hM ht (k := 3) (by decide)).put hM ht (k := 5) (by decide))) ?_, fun u => by repeat rw [upd_n (by omega)]⟩⟩
          · funext j
            simp only [rMove, upd]
            repeat' split
            all_goals first
              | rfl
              | (exfalso; omega)
              | (congr 1; omega)
    · have r1 : ¬ rReason z t = 0 := fun e => by rw [e] at hr; exact absurd hr (by decide)
      have r2 : ¬ rReason z t ≤ 0 := fun e => by rw [jA_le] at e; rw [jA_lt] at hr; omega
      rw [if_neg r2, if_neg r1, mCk_t (tk7 ht4), mCk_t (tk7 ht4), mNm_e, rT7 h3 ht4, wT7 h3 ht4, ru (by decide), t7]
      exact ⟨_, _, rfl, (L6 _).put (by rw [hm1 _ _ _ (by omega)]; exact hM) (by rw [hm1 _ _ _ (by omega)]; exact ht) (by decide), fun u => by repeat rw [upd_n (by omega)]⟩
  · have eT : rTurn z t = upd (upd z (36 + 9 * t + 6) 0) (36 + 9 * t + 5) (z (36 + 9 * t + 5) - 1) := by unfold rTurn; rw [if_neg r0]
    rw [if_neg r0, mCk_t (tk5 ht4), mCk_t (tk5 ht4), mNm_e, wT5 h3 ht4, mCk_t (tk6 ht4), mNm_e, wT6 h3 ht4, eT, upd_swap z _ _ (by omega)]
    exact ⟨_, _, rfl, (hL.put hM ht (by decide)).put (by rw [hm1 _ _ _ (by omega)]; exact hM) (by rw [hm1 _ _ _ (by omega)]; exact ht) (by decide), fun u => by repeat rw [upd_n (by omega)]⟩
end LTURN

