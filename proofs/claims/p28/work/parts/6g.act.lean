/-! act -/
theorem ActR.of {k : Nat} {M B : mM} {x y : Option (Int32 × mM)} (h : ActR k M B x) (e : y = x) : ActR k M B y := e ▸ h
theorem lAct {k : Nat} {G B : mM} {D S T : mR} (h : Sys k (lm 246 247 248 G D S T) B) (hk : k < 3000) (x1 x2 x3 : Int32) : ActR k (lm 246 247 248 G D S T) B (xL_act x1 x2 x3 246 10 247 24 248 40 (lm 246 247 248 G D S T)) := by
  have hi := h.1.1.2.1
  have hm := hi.m
  have hLR := h.lr
  have hat : ∀ (x : Int32) (N : Nat), 1 ≤ N → N < 1001 → ∀ M : mM, xL_at x (nI N) M = some (nI (atV x N)) := fun x N a b M => atE x a b M
  have hstay : ActR k (lm 246 247 248 G D S T) B (some ((1 : Int32), lm 246 247 248 G D S T)) := ⟨_, B, rfl, h.mono (by omega), Or.inr rfl, fun _ _ => rfl⟩
  unfold xL_act
  by_cases c7 : (7 : Int32) ≤ x1
  · rw [if_pos c7]
    by_cases c10 : (10 : Int32) ≤ x1
    · rw [if_pos c10]
      by_cases c13 : (13 : Int32) ≤ x1
      · rw [if_pos c13]
        by_cases c15 : (15 : Int32) ≤ x1
        · rw [if_pos c15]
          by_cases e15 : x1 = 15
          · rw [if_pos e15, show xL_at x3 (3 : Int32) (lm 246 247 248 G D S T) = _ from hat x3 3 (by decide) (by decide) _, bs]
            by_cases q : (0 : Int32) < nI (atV x3 3)
            · rw [if_pos q]; exact hstay
            · rw [if_neg q]
              obtain ⟨M', B', e1, e2, e3, e4⟩ := aLayX h x2 (x3 >>> ((2 : Int32) &&& 31))
              rw [e1, bs]
              exact ⟨M', B', if_neg one_ne, e2, e3, e4⟩
          · rw [if_neg e15, mCk_t dk1, rD1, hLR.d1 hi]
            by_cases m0 : rM (B 247) = 0
            · rw [if_pos (show nI (rM (B 247)) = 0 by rw [m0]; rfl)]
              exact aNoneX h m0
            · rw [if_neg (nI_ne m0 (by omega)), mCk_t dk1, hat x2 (rM (B 247)) (by omega) (by omega), bs]
              have ht := atV_lt x2 (N := rM (B 247)) (by omega)
              by_cases e16 : x1 = 16
              · rw [if_pos e16, show ∀ M : mM, xL_at x3 (20 : Int32) M = some (nI (atV x3 20)) from fun M => hat x3 20 (by decide) (by decide) M]
                exact aLoadX h ht (atV_lt x3 (by decide))
              · rw [if_neg e16, show xL_at x3 (2 : Int32) (lm 246 247 248 G D S T) = _ from hat x3 2 (by decide) (by decide) _, bs]
                by_cases q : nI (atV x3 2) = 0
                · rw [if_pos q]; exact hstay
                · rw [if_neg q]
                  exact aDropX h ht
        · rw [if_neg c15, show xL_at x2 (3 : Int32) (lm 246 247 248 G D S T) = _ from hat x2 3 (by decide) (by decide) _, bs]
          have ht := atV_lt x2 (N := 3) (by decide)
          obtain ⟨j, hj⟩ : ∃ j, atV x2 3 = j := ⟨_, rfl⟩
          rw [hj] at ht ⊢
          have hin : mIn ((2 : Int32) + nI j) 10 := by rw [show (2 : Int32) + nI j = nI (2 + j) from nI_add 2 j]; exact jA_in (by omega) (by decide)
          rw [mCk_t hin, mNm_e]
          by_cases j0 : j = 0
          · subst j0
            rw [if_pos (show nI 0 = 0 from rfl), show xL_at (x3 >>> ((8 : Int32) &&& 31)) (2 : Int32) (lm 246 247 248 G D S T) = _ from hat _ 2 (by decide) (by decide) _, bs]
            by_cases q : nI (atV (x3 >>> ((8 : Int32) &&& 31)) 2) = 0
            · rw [if_pos q, show xL_at x3 (891 : Int32) (lm 246 247 248 G D S T) = _ from hat x3 891 (by decide) (by decide) _, bs]
              have hv := atV_lt x3 (N := 891) (by decide)
              exact aSetX h (j := 0) (by decide) ⟨fun _ => by rw [show (10 : Int32) + nI (atV x3 891) = nI (10 + atV x3 891) from nI_add 10 _, jA_n (by omega)]; omega, fun e => absurd e (by decide), fun e => absurd e (by decide)⟩
            · rw [if_neg q, show xL_at x3 (200 : Int32) (lm 246 247 248 G D S T) = _ from hat x3 200 (by decide) (by decide) _, bs]
              have hv := atV_lt x3 (N := 200) (by decide)
              exact aSetX h (j := 0) (by decide) ⟨fun _ => by rw [show (10 : Int32) + nI (atV x3 200) = nI (10 + atV x3 200) from nI_add 10 _, jA_n (by omega)]; omega, fun e => absurd e (by decide), fun e => absurd e (by decide)⟩
          · rw [if_neg (nI_ne j0 (by omega))]
            by_cases j1 : j = 1
            · subst j1
              rw [if_pos (show nI 1 = 1 from rfl), show xL_at x3 (50 : Int32) (lm 246 247 248 G D S T) = _ from hat x3 50 (by decide) (by decide) _, bs]
              have hv := atV_lt x3 (N := 50) (by decide)
              exact aSetX h (j := 1) (by decide) ⟨fun e => absurd e (by decide), fun _ => by rw [show (1 : Int32) + nI (atV x3 50) = nI (1 + atV x3 50) from nI_add 1 _, jA_n (by omega)]; omega, fun e => absurd e (by decide)⟩
            · have j2 : j = 2 := by omega
              subst j2
              rw [if_neg (show ¬ nI 2 = 1 by decide), show xL_at x3 (3 : Int32) (lm 246 247 248 G D S T) = _ from hat x3 3 (by decide) (by decide) _, bs]
              have hv := atV_lt x3 (N := 3) (by decide)
              refine aSetX h (j := 2) (by decide) ⟨fun e => absurd e (by decide), fun e => absurd e (by decide), fun _ => ?_⟩
              rcases (show atV x3 3 = 0 ∨ atV x3 3 = 1 ∨ atV x3 3 = 2 by omega) with q | q | q <;> rw [q]
              · exact Or.inl rfl
              · exact Or.inr (Or.inl rfl)
              · exact Or.inr (Or.inr rfl)
      · rw [if_neg c13, show xL_at x2 (6 : Int32) (lm 246 247 248 G D S T) = _ from hat x2 6 (by decide) (by decide) _, bs, show xL_at x3 (20 : Int32) (lm 246 247 248 G D S T) = _ from hat x3 20 (by decide) (by decide) _]
        exact aAddX h (atV_lt x2 (by decide)) (atV_lt x3 (by decide))
    · rw [if_neg c10, show xL_at x3 (3 : Int32) (lm 246 247 248 G D S T) = _ from hat x3 3 (by decide) (by decide) _, bs]
      by_cases q : nI (atV x3 3) = 0
      · rw [if_pos q, show xL_at x2 (1000 : Int32) (lm 246 247 248 G D S T) = _ from hat x2 1000 (by decide) (by decide) _, bs]
        exact aDigX h (atV_lt x2 (by decide))
      · rw [if_neg q, show xL_at x2 (150 : Int32) (lm 246 247 248 G D S T) = _ from hat x2 150 (by decide) (by decide) _, bs]
        exact aDigX h (Nat.lt_of_lt_of_le (atV_lt x2 (N := 150) (by decide)) (by decide))
  · rw [if_neg c7, show xL_at x3 (4 : Int32) (lm 246 247 248 G D S T) = _ from hat x3 4 (by decide) (by decide) _, bs]
    by_cases q : nI (atV x3 4) = 0
    · rw [if_pos q, show xL_at x2 (200 : Int32) (lm 246 247 248 G D S T) = _ from hat x2 200 (by decide) (by decide) _, bs]
      exact aRunX h hk (atV_lt x2 (by decide))
    · rw [if_neg q, show xL_at x2 (30 : Int32) (lm 246 247 248 G D S T) = _ from hat x2 30 (by decide) (by decide) _, bs]
      exact aRunX h hk (Nat.lt_of_lt_of_le (atV_lt x2 (N := 30) (by decide)) (by decide))
