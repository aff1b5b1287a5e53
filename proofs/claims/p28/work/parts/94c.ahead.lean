/-! AHEAD says what the class says -/
theorem d234 : l3 252 253 254 := by decide
theorem LR.cg {D S T z D' S' T' : mR} (h : LR D S T z) (hm : rM z ≤ 4) (h1 : ∀ k, k < 10 → D' k = D k) (h2 : ∀ k, k < 24 → S' k = S k) (h3 : ∀ k, k < 40 → T' k = T k) : LR D' S' T' z := by
  obtain ⟨⟨a0, a1, a2, a3, a4, a5, a6, a7, a8, a9⟩, h8, hS, hT⟩ := h
  refine ⟨⟨by rw [h1 _ (by decide)]; exact a0, by rw [h1 _ (by decide)]; exact a1, by rw [h1 _ (by decide)]; exact a2, by rw [h1 _ (by decide)]; exact a3, by rw [h1 _ (by decide)]; exact a4, by rw [h1 _ (by decide)]; exact a5, by rw [h1 _ (by decide)]; exact a6, by rw [h1 _ (by decide)]; exact a7, by rw [h1 _ (by decide)]; exact a8, by rw [h1 _ (by decide)]; exact a9⟩, h8, fun s hs => ?_, fun t ht k hk => by rw [h3 _ (by omega)]; exact hT t ht k hk⟩
  obtain ⟨s1, s2, s3⟩ := hS s hs
  rw [h2 (3 * s) (by omega), h2 (3 * s + 2) (by omega), h2 (3 * s + 1) (by omega)]
  exact ⟨s1, s2, s3⟩
theorem rz3 (M : mM) : rz (rz (rz M 252) 253) 254 = lm 252 253 254 M (fun _ => 0) (fun _ => 0) (fun _ => 0) := by
  funext e k
  unfold lm rz
  by_cases h4 : e = 254
  · subst h4; rfl
  · rw [if_neg h4]
    by_cases h3 : e = 253
    · subst h3; rfl
    · rw [if_neg h3]
      by_cases h2 : e = 252
      · rw [if_pos h2, if_pos h2]
      · rw [if_neg h2, if_neg h2, if_neg h3, if_neg h4]
section AHEAD
variable {k : Nat} {M B : mM} {D S T z : mR}
theorem cpA {F : mR} : (fun e j => if e = 252 then F j else lm 252 253 254 M D S T e j : mM) = lm 252 253 254 M F S T := by
  funext e j
  unfold lm
  by_cases h : e = 252
  · rw [if_pos h, if_pos h]
  · rw [if_neg h, if_neg h, if_neg h]
theorem cpB {F : mR} : (fun e j => if e = 253 then F j else lm 252 253 254 M D S T e j : mM) = lm 252 253 254 M D F T := by
  funext e j
  unfold lm
  by_cases h : e = 253
  · rw [if_pos h, if_neg (by omega), if_pos h]
  · rw [if_neg h, if_neg h, if_neg h]
theorem cpC {F : mR} : (fun e j => if e = 254 then F j else lm 252 253 254 M D S T e j : mM) = lm 252 253 254 M D S F := by
  funext e j
  unfold lm
  by_cases h : e = 254
  · rw [if_pos h, if_neg (by omega), if_neg (by omega), if_pos h]
  · rw [if_neg h, if_neg h, if_neg h]
def cD (M : mM) (D : mR) : mR := cpL (M 246) D 10
def cS (M : mM) (S : mR) : mR := cpL (M 247) S 24
def cT (M : mM) (T : mR) : mR := cpL (M 248) T 40
theorem aC1 : xL_copy 246 10 252 10 (lm 252 253 254 M D S T) = some (lm 252 253 254 M (cD M D) S T) := by
  rw [lCopy (by decide) (by decide), lm_o (by decide) (by decide) (by decide), lm_a, cpA]
  rfl
theorem aC2 : xL_copy 247 24 253 24 (lm 252 253 254 M D S T) = some (lm 252 253 254 M D (cS M S) T) := by
  rw [lCopy (by decide) (by decide), lm_o (by decide) (by decide) (by decide), lm_b d234, cpB]
  rfl
theorem aC3 : xL_copy 248 40 254 40 (lm 252 253 254 M D S T) = some (lm 252 253 254 M D S (cT M T)) := by
  rw [lCopy (by decide) (by decide), lm_o (by decide) (by decide) (by decide), lm_c d234, cpC]
  rfl
theorem aLR (h : LR (M 246) (M 247) (M 248) z) (hm : rM z ≤ 4) : LR (cD M D) (cS M S) (cT M T) z := h.cg hm (fun j hj => by unfold cD cpL; rw [if_pos hj]) (fun j hj => by unfold cS cpL; rw [if_pos hj]) (fun j hj => by unfold cT cpL; rw [if_pos hj])
theorem aTick (hL : LR D S T z) (hi : rInv z) (hx : rX z) : ∃ D' S' T', xL_tick 252 10 253 24 254 40 (lm 252 253 254 M D S T) = some (lm 252 253 254 M D' S' T') ∧ LR D' S' T' (rTick z) := lTick d234 hL hi hx
theorem aL427 (hL : LR D S T z) (hi : rInv z) (hx : rX z) {n : Nat} (hn : n < 1900) (y8 y10 y11 y12 y13 : Int32) : ∃ D1 S1 T1, xL_ahead_T_L427 y8 (nI n) y10 y11 y12 y13 mFu 0 (lm 252 253 254 M D S T) = some (lm 252 253 254 M D1 S1 T1) ∧ LR D1 S1 T1 (rTicks z n) := by
  have hLp := lpI (fun f (x : mR × mR × mR) i => xL_ahead_T_L427 y8 (nI n) y10 y11 y12 y13 f i (lm 252 253 254 M x.1 x.2.1 x.2.2)) (fun x => lm 252 253 254 M x.1 x.2.1 x.2.2) (fun i x => LR x.1 x.2.1 x.2.2 (rTicks z i)) n (fun f i x hn' hI => ?_) (fun f x hI => ?_) n 0 mFu (D, S, T) (by omega) (by unfold mFu; omega) hL
  · obtain ⟨x, h1, h2⟩ := hLp
    exact ⟨x.1, x.2.1, x.2.2, h1, h2⟩
  · obtain ⟨D', S', T', g1, g2⟩ := aTick (M := M) hI (rTicks_inv hi i) (rTicks_X hi hx i)
    show ∃ x' : mR × mR × mR, xL_ahead_T_L427 y8 (nI n) y10 y11 y12 y13 (f + 1) (nI i) (lm 252 253 254 M x.1 x.2.1 x.2.2) = xL_ahead_T_L427 y8 (nI n) y10 y11 y12 y13 f (nI (i + 1)) (lm 252 253 254 M x'.1 x'.2.1 x'.2.2) ∧ _
    rw [xL_ahead_T_L427, if_neg (fun q => by have := (jA_nle (by omega) (by omega)).mp q; omega), g1, bs, mNm_e, jA_1]
    exact ⟨(D', S', T'), rfl, g2⟩
  · show xL_ahead_T_L427 y8 (nI n) y10 y11 y12 y13 (f + 1) (nI n) (lm 252 253 254 M x.1 x.2.1 x.2.2) = _
    rw [xL_ahead_T_L427, if_pos ((jA_nle (by omega) (by omega)).mpr (Nat.le_refl _))]
theorem aL67 (hL : LR D S T z) (hi : rInv z) (hx : rX z) {n : Nat} (hn : n < 1900) : ∃ D1 S1 T1, xL_ahead_T_L67 (nI n) mFu 0 0 (lm 252 253 254 M D S T) = some (rPk z n, lm 252 253 254 M D1 S1 T1) ∧ LR D1 S1 T1 (rTicks z n) := by
  have hLp := lpI (fun f (x : Int32 × mR × mR × mR) i => xL_ahead_T_L67 (nI n) f x.1 i (lm 252 253 254 M x.2.1 x.2.2.1 x.2.2.2)) (fun x => (x.1, lm 252 253 254 M x.2.1 x.2.2.1 x.2.2.2)) (fun i x => x.1 = rPk z i ∧ LR x.2.1 x.2.2.1 x.2.2.2 (rTicks z i)) n (fun f i x hn' hI => ?_) (fun f x hI => ?_) n 0 mFu (0, D, S, T) (by omega) (by unfold mFu; omega) ⟨rfl, hL⟩
  · obtain ⟨x, h1, h0, h2⟩ := hLp
    exact ⟨x.2.1, x.2.2.1, x.2.2.2, by rw [← h0]; exact h1, h2⟩
  · obtain ⟨w, D0, S0, T0⟩ := x
    obtain ⟨e0, hI⟩ := hI
    have e0 : w = rPk z i := e0
    have hI : LR D0 S0 T0 (rTicks z i) := hI
    obtain ⟨D', S', T', g1, g2⟩ := aTick (M := M) hI (rTicks_inv hi i) (rTicks_X hi hx i)
    have g3 : xL_sunk 252 10 253 24 (lm 252 253 254 M D' S' T') = some (rDeep (rTicks z (i + 1))) := lSunk g2 d234 (rTicks_inv hi (i + 1))
    show ∃ x' : Int32 × mR × mR × mR, xL_ahead_T_L67 (nI n) (f + 1) w (nI i) (lm 252 253 254 M D0 S0 T0) = xL_ahead_T_L67 (nI n) f x'.1 (nI (i + 1)) (lm 252 253 254 M x'.2.1 x'.2.2.1 x'.2.2.2) ∧ x'.1 = rPk z (i + 1) ∧ LR x'.2.1 x'.2.2.1 x'.2.2.2 (rTicks z (i + 1))
    rw [xL_ahead_T_L67, if_neg (fun q => by have := (jA_nle (by omega) (by omega)).mp q; omega), g1, bs, g3, bs]
    by_cases c : rDeep (rTicks z (i + 1)) ≤ w
    · rw [if_pos c, mNm_e, jA_1]
      refine ⟨(w, D', S', T'), rfl, ?_, g2⟩
      show w = rPk z (i + 1)
      rw [rPk, if_neg (fun q => by rw [← e0, jA_lt] at q; rw [jA_le] at c; omega), e0]
    · rw [if_neg c, bs, mNm_e, jA_1]
      refine ⟨(rDeep (rTicks z (i + 1)), D', S', T'), rfl, ?_, g2⟩
      show rDeep (rTicks z (i + 1)) = rPk z (i + 1)
      rw [rPk, if_pos (by rw [← e0, jA_lt]; rw [jA_le] at c; omega)]
  · obtain ⟨w, D0, S0, T0⟩ := x
    show xL_ahead_T_L67 (nI n) (f + 1) w (nI n) (lm 252 253 254 M D0 S0 T0) = _
    rw [xL_ahead_T_L67, if_pos ((jA_nle (by omega) (by omega)).mpr (Nat.le_refl _))]
theorem aL239 (hi : rInv z) (hx : rX z) (x : Int32) (h7 : M 246 7 = z 80) : ∀ (k i n : Nat) (D S T : mR), i + k = 501 → k < n → LR D S T (rTicks z i) → ∃ D1 S1 T1, xL_ahead_T_L239 x n (nI i) (lm 252 253 254 M D S T) = some (nI (fT (rGoal z x) k i), lm 252 253 254 M D1 S1 T1) := by
  intro k
  induction k with
  | zero =>
    intro i n D S T hik hn hL
    obtain ⟨n, rfl⟩ : ∃ m, n = m + 1 := ⟨n - 1, by omega⟩
    rw [xL_ahead_T_L239, if_pos (show (501 : Int32) ≤ nI i from (jA_nle (a := 501) (by omega) (by omega)).mpr (by omega))]
    exact ⟨D, S, T, rfl⟩
  | succ k ih =>
    intro i n D S T hik hn hL
    obtain ⟨n, rfl⟩ : ∃ m, n = m + 1 := ⟨n - 1, by omega⟩
    have d7 : D 7 = rTicks z i 80 := hL.1.2.2.2.2.2.2.2.1
    rw [xL_ahead_T_L239, if_neg (show ¬ (501 : Int32) ≤ nI i from fun q => by have := (jA_nle (a := 501) (by omega) (by omega)).mp q; omega), lm_a, lm_o (by decide) (by decide) (by decide), h7, d7, fT]
    by_cases q : rTicks z i 80 < z 80 + x
    · obtain ⟨D', S', T', g1, g2⟩ := aTick (M := M) hL (rTicks_inv hi i) (rTicks_X hi hx i)
      rw [if_neg (show ¬ z 80 + x ≤ rTicks z i 80 from fun r => by rw [jA_le] at r; rw [jA_lt] at q; omega), if_neg (show ¬ rGoal z x i from fun r => r q), g1, bs, mNm_e, jA_1]
      exact ih (i + 1) n D' S' T' (by omega) (by omega) g2
    · rw [if_pos (show z 80 + x ≤ rTicks z i 80 by rw [jA_le]; rw [jA_lt] at q; omega), if_pos (show rGoal z x i from q)]
      exact ⟨D, S, T, rfl⟩
/-- the best of a row of candidates -/
theorem lBest {idx lo c n0 : Nat} (hlo : lo + c < 1000) (hc : 1 ≤ c) (Lf : Nat → Int32 → Int32 → Int32 → mM → Option (Int32 × mM)) (hz : 0 ≤ (z 80).toInt)
    (hd : ∀ i, lo ≤ i → i < lo + c → (z 80).toInt ≤ (rTicks (upd z idx (nI i)) n0 80).toInt ∧ (rTicks (upd z idx (nI i)) n0 80).toInt ≤ 1900000000)
    (hs : ∀ (n i : Nat) (w11 w12 : Int32) (D S T : mR), lo ≤ i → i < lo + c → ∃ D1 S1 T1, D1 7 = rTicks (upd z idx (nI i)) n0 80 ∧ Lf (n + 1) w11 w12 (nI i) (lm 252 253 254 M D S T) = if w11 < 0 then Lf n (nI i) (D1 7) (nI (i + 1)) (lm 252 253 254 M D1 S1 T1) else if w12 < D1 7 then Lf n (nI i) (D1 7) (nI (i + 1)) (lm 252 253 254 M D1 S1 T1) else Lf n w11 w12 (nI (i + 1)) (lm 252 253 254 M D1 S1 T1))
    (he : ∀ (n : Nat) (w11 w12 : Int32) (D S T : mR), Lf (n + 1) w11 w12 (nI (lo + c)) (lm 252 253 254 M D S T) = some (w11, lm 252 253 254 M D S T)) :
    ∃ D1 S1 T1, Lf mFu (-1) 0 (nI lo) (lm 252 253 254 M D S T) = some ((rBst z idx n0 lo c).1, lm 252 253 254 M D1 S1 T1) := by
  have hLp := lpI (fun f (x : Int32 × Int32 × mR × mR × mR) i => Lf f x.1 x.2.1 i (lm 252 253 254 M x.2.2.1 x.2.2.2.1 x.2.2.2.2)) (fun x => (x.1, lm 252 253 254 M x.2.2.1 x.2.2.2.1 x.2.2.2.2)) (fun i x => lo ≤ i ∧ ((i = lo ∧ x.1 = -1) ∨ (lo < i ∧ 0 ≤ x.1.toInt ∧ x.1 = (rBst z idx n0 lo (i - lo)).1 ∧ (z 80).toInt ≤ x.2.1.toInt ∧ x.2.1.toInt ≤ 1900000000 ∧ (rBst z idx n0 lo (i - lo)).2 = x.2.1 - z 80))) (lo + c) (fun f i x hn' hI => ?_) (fun f x hI => ?_) c lo mFu (-1, 0, D, S, T) rfl (by unfold mFu; omega) ⟨Nat.le_refl _, Or.inl ⟨rfl, rfl⟩⟩
  · obtain ⟨x, h1, h0, h2⟩ := hLp
    rcases h2 with ⟨h2, -⟩ | ⟨-, -, h2, -⟩
    · omega
    · rw [show lo + c - lo = c by omega] at h2
      exact ⟨x.2.2.1, x.2.2.2.1, x.2.2.2.2, by rw [← h2]; exact h1⟩
  · obtain ⟨w, v, D0, S0, T0⟩ := x
    obtain ⟨hli, hI⟩ := hI
    obtain ⟨j, rfl⟩ : ∃ j, i = lo + j := ⟨i - lo, by omega⟩
    obtain ⟨D1, S1, T1, e7, eL⟩ := hs f (lo + j) w v D0 S0 T0 hli hn'
    obtain ⟨b1, b2⟩ := hd (lo + j) hli hn'
    have hzu : (z 80).toInt < 2147483648 := Int32.toInt_lt _
    have q1 : (rTicks (upd z idx (nI (lo + j))) n0 80 - z 80).toInt = (rTicks (upd z idx (nI (lo + j))) n0 80).toInt - (z 80).toInt := jA_sub (by omega) (by omega)
    have hnn : 0 ≤ (nI (lo + j)).toInt := by rw [jA_n (by omega)]; omega
    show ∃ x' : Int32 × Int32 × mR × mR × mR, Lf (f + 1) w v (nI (lo + j)) (lm 252 253 254 M D0 S0 T0) = Lf f x'.1 x'.2.1 (nI (lo + j + 1)) (lm 252 253 254 M x'.2.2.1 x'.2.2.2.1 x'.2.2.2.2) ∧ _
    rw [eL]
    have new : (rBst z idx n0 lo (j + 1)) = (nI (lo + j), rTicks (upd z idx (nI (lo + j))) n0 80 - z 80) → (lo ≤ lo + j + 1 ∧ ((lo + j + 1 = lo ∧ nI (lo + j) = -1) ∨ (lo < lo + j + 1 ∧ 0 ≤ (nI (lo + j)).toInt ∧ nI (lo + j) = (rBst z idx n0 lo (lo + j + 1 - lo)).1 ∧ (z 80).toInt ≤ (D1 7).toInt ∧ (D1 7).toInt ≤ 1900000000 ∧ (rBst z idx n0 lo (lo + j + 1 - lo)).2 = D1 7 - z 80))) := fun e => by
      rw [show lo + j + 1 - lo = j + 1 by omega, e, e7]
      exact ⟨by omega, Or.inr ⟨by omega, hnn, rfl, b1, b2, rfl⟩⟩
    rcases hI with ⟨h0, h1⟩ | ⟨h0, h1, h2, h3, h4, h5⟩
    · have h1 : w = -1 := h1
      rw [if_pos (show w < 0 by rw [h1]; decide)]
      refine ⟨(nI (lo + j), D1 7, D1, S1, T1), rfl, new ?_⟩
      have hj0 : j = 0 := by omega
      subst hj0
      rw [rBst, if_neg (fun q => by
        have q2 := q
        rw [jA_le, q1] at q2
        have : (rBst z idx n0 lo 0).2.toInt = -1 := by show (-1 : Int32).toInt = -1; decide
        omega)]
    · rw [show lo + j - lo = j by omega] at h2 h5
      have h1 : 0 ≤ w.toInt := h1
      have h3 : (z 80).toInt ≤ v.toInt := h3
      have h4 : v.toInt ≤ 1900000000 := h4
      have h5 : (rBst z idx n0 lo j).2 = v - z 80 := h5
      have q2 : (v - z 80).toInt = v.toInt - (z 80).toInt := jA_sub (by omega) (by omega)
      rw [if_neg (show ¬ w < 0 from fun q => by rw [jA_lt] at q; have : (0 : Int32).toInt = 0 := by decide
                                                omega)]
      by_cases cc : v < D1 7
      · rw [if_pos cc]
        refine ⟨(nI (lo + j), D1 7, D1, S1, T1), rfl, new ?_⟩
        rw [rBst, h5, if_neg (fun q => by
          have q3 := q
          rw [jA_le, q1, q2] at q3
          rw [e7, jA_lt] at cc
          omega)]
      · rw [if_neg cc]
        refine ⟨(w, v, D1, S1, T1), rfl, by omega, Or.inr ⟨by omega, h1, ?_, h3, h4, ?_⟩⟩
        · show w = (rBst z idx n0 lo (lo + j + 1 - lo)).1
          rw [show lo + j + 1 - lo = j + 1 by omega, rBst, h5, if_pos (by rw [jA_le, q1, q2]; rw [e7, jA_lt] at cc; omega)]
          exact h2
        · show (rBst z idx n0 lo (lo + j + 1 - lo)).2 = v - z 80
          rw [show lo + j + 1 - lo = j + 1 by omega, rBst, h5, if_pos (by rw [jA_le, q1, q2]; rw [e7, jA_lt] at cc; omega)]
          exact h5
  · exact he f x.1 x.2.1 _ _ _
end AHEAD
