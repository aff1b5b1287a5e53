/-! THE LAW's BODY answers 1 -/
def rw1 (G : mM) (d : Nat) (F : mR) : mM := fun e k => if e = d then F k else G e k
theorem rw1_s {G : mM} {d : Nat} {F : mR} : rw1 G d F d = F := by funext k; unfold rw1; rw [if_pos rfl]
theorem rw1_o {G : mM} {d e : Nat} {F : mR} (h : e ≠ d) : rw1 G d F e = G e := by funext k; unfold rw1; rw [if_neg h]
theorem lCopy1 {G : mM} {a d n : Nat} (had : a ≠ d) (hn : n < 1000) : xL_copy a n d n G = some (rw1 G d (cpL (G a) (G d) n)) := lCopy had hn
theorem cpL_i {F Z : mR} {n k : Nat} (h : k < n) : cpL F Z n k = F k := by unfold cpL; rw [if_pos h]
theorem copies (G : mM) {a b c a' b' c' : Nat} (h : a ≠ a' ∧ b ≠ b' ∧ c ≠ c') (h2 : b ≠ a' ∧ c ≠ a' ∧ c ≠ b') (h3 : a' ≠ b' ∧ a' ≠ c' ∧ b' ≠ c') : ∃ G1 G2 G3, xL_copy a 10 a' 10 G = some G1 ∧ xL_copy b 24 b' 24 G1 = some G2 ∧ xL_copy c 40 c' 40 G2 = some G3 ∧ (∀ e, e ≠ a' → e ≠ b' → e ≠ c' → G3 e = G e) ∧ (∀ k, k < 10 → G3 a' k = G a k) ∧ (∀ k, k < 24 → G3 b' k = G b k) ∧ ∀ k, k < 40 → G3 c' k = G c k := by
  refine ⟨_, _, _, lCopy1 h.1 (by decide), lCopy1 h.2.1 (by decide), lCopy1 h.2.2 (by decide), fun e e1 e2 e3 => ?_, fun k hk => ?_, fun k hk => ?_, fun k hk => ?_⟩
  · rw [rw1_o e3, rw1_o e2, rw1_o e1]
  · rw [rw1_o h3.2.1, rw1_o h3.1, rw1_s, cpL_i hk]
  · rw [rw1_o h3.2.2, rw1_s, cpL_i hk, rw1_o h2.1]
  · rw [rw1_s, cpL_i hk, rw1_o h2.2.2, rw1_o h2.2.1]
theorem LR.cz {D S T z w : mR} (h : LR D S T z) (hm : rM z ≤ 4) (hw : ∀ j, j < 82 → w j = z j) : LR D S T w := by
  have eN : rN w = rN z := by unfold rN; rw [hw 72 (by decide)]
  have eM : rM w = rM z := by unfold rM; rw [hw 73 (by decide)]
  obtain ⟨⟨a0, a1, a2, a3, a4, a5, a6, a7, a8, a9⟩, h8, hS, hT⟩ := h
  refine ⟨⟨by rw [hw 72 (by decide)]; exact a0, by rw [hw 73 (by decide)]; exact a1, by rw [hw 75 (by decide)]; exact a2, by rw [hw 76 (by decide)]; exact a3, by rw [hw 77 (by decide)]; exact a4, by rw [hw 78 (by decide)]; exact a5, by rw [hw 79 (by decide)]; exact a6, by rw [hw 80 (by decide)]; exact a7, by rw [hw 81 (by decide)]; exact a8, by rw [hw 74 (by decide)]; exact a9⟩, by rw [eN]; exact h8, fun s hs => ?_, fun t ht k hk => ?_⟩
  · rw [eN] at hs
    obtain ⟨s1, s2, s3⟩ := hS s hs
    rw [hw (3 * s) (by omega), hw (3 * s + 2) (by omega)]
    refine ⟨s1, s2, ?_⟩
    unfold rPs rEnd at s3 ⊢
    rw [eN, hw (3 * s + 1) (by omega)]
    exact s3
  · rw [eM] at ht
    rw [hw _ (by omega)]
    exact hT t ht k hk
theorem rX.cz {z w : mR} (h : rX z) (hm : rM z ≤ 4) (hw : ∀ j, j < 82 → w j = z j) : rX w := by
  have eM : rM w = rM z := by unfold rM; rw [hw 73 (by decide)]
  obtain ⟨x1, x2⟩ := h
  refine ⟨fun t ht => ?_, ?_⟩
  · rw [eM] at ht
    rw [hw _ (by omega), hw _ (by omega)]
    exact x1 t ht
  · have e : rPeat w = rPeat z := by
      unfold rPeat
      rw [eM]
      exact sumI_cong (fun i hi => hw _ (by omega))
    unfold rAc at x2 ⊢
    rw [e, hw 78 (by decide), hw 79 (by decide), hw 80 (by decide), hw 81 (by decide)]
    exact x2
theorem rel244 {k : Nat} {A B : mM} (h : Rel k A B) : h244 A := fun j hj => by
  obtain ⟨m, sc, a1, a2, a3, a4, -⟩ := h.2.2.2.1
  obtain ⟨e, i, h1, h2, h3⟩ := a4 j hj
  rw [e, jA_clamp (by omega)]
  omega
section LAWB
variable {k : Nat} {G B : mM}
theorem sysTold (h : Sys k G B) : xL_told 246 10 247 24 248 40 G = some 1 := by
  have := lTold (G := G) (D := G 246) (S := G 247) (T := G 248) d678 h.2.1 h.1.1.2.1 h.2.2 (by rw [lm_id]; exact h.1.1.1)
  rw [lm_id] at this
  exact this
theorem sysAct (h : Sys k G B) (hk : k < 3000) (x1 x2 x3 : Int32) : ActR k G B (xL_act x1 x2 x3 246 10 247 24 248 40 G) := by
  have := lAct (k := k) (G := G) (B := B) (D := G 246) (S := G 247) (T := G 248) (by rw [lm_id]; exact h) hk x1 x2 x3
  rw [lm_id] at this
  exact this
theorem sysRows (h : Sys k G B) {G' : mM} (hl : ∀ e, e < 249 → G' e = G e) : Sys k G' (lawB B G') := ⟨h.1.law (fun e he => hl e (by omega)), by rw [hl 246 (by decide), hl 247 (by decide), hl 248 (by decide), lawB_o (by decide)]; exact h.2.1, by rw [lawB_o (by decide)]; exact h.2.2⟩
theorem lJ368 (h : Sys k G B) (hk : k < 3000) (L : Nat) (xs : Nat → Int32) (K : Int32 → mM → Option (Nat × mM)) (z8 z10 : Int32) : ∃ G' B', xL_law_T_J368 L xs K z8 z10 G = K (z8 + 1) G' ∧ Sys (k + 4) G' B' := by
  unfold xL_law_T_J368
  by_cases c : (z8 - z8 / ((6 : Int32)) * ((6 : Int32))) = ((5 : Int32))
  · obtain ⟨M', B', e1, e2, -⟩ := lAhead h hk (z10 >>> ((2 : Int32) &&& 31))
    rw [if_pos c, mCk_t (rel244 h.1), e1, bs, mCk_t (rel244 e2.1)]
    dsimp only
    rw [if_neg (show ¬ (1 : Int32) = 0 by decide), mNm_e]
    exact ⟨M', B', rfl, e2⟩
  · rw [if_neg c, mNm_e]
    exact ⟨G, B, rfl, h.mono (by omega)⟩
theorem lJ267 (h : Sys k G B) (hk : k < 2900) (g1 : ∀ j, j < 10 → G 249 j = G 246 j) (g2 : ∀ j, j < 24 → G 250 j = G 247 j) (g3 : ∀ j, j < 40 → G 251 j = G 248 j) (L : Nat) (xs : Nat → Int32) (K : Int32 → mM → Option (Nat × mM)) (z8 z9 z10 t0 : Int32) : ∃ G' B', xL_law_T_J267 L xs K z8 z9 z10 (G 243 1) t0 G = K (z8 + 1) G' ∧ Sys (k + 8) G' B' := by
  have hi := h.1.1.2.1
  have hm := hi.m
  obtain ⟨G2, B2, e1, S2, hH, k2⟩ := sysAct h (by omega) t0 z9 z10
  obtain ⟨m0, -, a1, a2, a3, -⟩ := h.1.2.2.2.1
  obtain ⟨m2, -, b1, b2, b3, -⟩ := S2.1.2.2.2.1
  unfold xL_law_T_J267
  rw [e1, bs]
  dsimp only
  rw [if_neg (show ¬ (1 : Int32) = 0 by decide), sysTold S2, bs, if_neg (show ¬ (1 : Int32) = 0 by decide)]
  obtain ⟨G9, B9, j1, j2⟩ := lJ368 S2 (by omega) L xs K z8 z10
  have skip : ∃ G' B', xL_law_T_J368 L xs K z8 z10 G2 = K (z8 + 1) G' ∧ Sys (k + 8) G' B' := ⟨G9, B9, j1, j2.mono (by omega)⟩
  by_cases c8 : ((8 : Int32)) ≤ G 243 1
  · rw [if_pos c8]; exact skip
  · rw [if_neg c8, aCnt5, bs]
    by_cases cc : G2 243 1 = G 243 1 + ((1 : Int32))
    · rw [if_pos cc, show xL_at (z10 >>> ((12 : Int32) &&& 31)) ((5 : Int32)) G2 = some (nI (atV (z10 >>> ((12 : Int32) &&& 31)) 5)) from atE _ (by decide) (by decide) _, bs]
      by_cases c0 : nI (atV (z10 >>> ((12 : Int32) &&& 31)) 5) = 0
      · rw [if_pos c0]
        rw [a2] at c8 cc
        rw [b2] at cc
        have hm0 : m0 < 8 := Nat.lt_of_not_le (fun q => c8 ((jA_nle (a := 8) (by decide) (by omega)).mpr q))
        rw [jA_1] at cc
        have hm2 : m2 = m0 + 1 := (jA_neq (by omega) (by omega)).mp cc
        subst hm2
        rcases hH with ⟨m, h1, h2, h3⟩ | hH
        · have em : m = m0 := by rw [h2] at a3; exact (jA_neq (by omega) (by omega)).mp a3
          subst em
          rcases h3 with ⟨h3, h4, h5⟩ | ⟨h3, -⟩
          · obtain ⟨G4, B4, u1, u2, u3, u4, u5⟩ := oUndo S2.1 (q := m) h4 h3
            obtain ⟨C1, C2, C3, q1, q2, q3, q4, q5, q6, q7⟩ := copies G4 (a := 249) (b := 250) (c := 251) (a' := 246) (b' := 247) (c' := 248) (by decide) (by decide) (by decide)
            have hz : ∀ j, j < 82 → B4 247 j = B 247 j := fun j hj => (u3 j hj).trans (h5 j hj)
            have S3 : Sys (k + 3) C3 (lawB B4 C3) := by
              refine ⟨u2.law (fun e he => q4 e (by omega) (by omega) (by omega)), ?_, ?_⟩
              · rw [lawB_o (by decide)]
                refine (h.2.1.cg hm (fun j hj => ?_) (fun j hj => ?_) (fun j hj => ?_)).cz hm hz
                · rw [q5 j hj, u4 249 (by decide), k2 249 (by decide), g1 j hj]
                · rw [q6 j hj, u4 250 (by decide), k2 250 (by decide), g2 j hj]
                · rw [q7 j hj, u4 251 (by decide), k2 251 (by decide), g3 j hj]
              · rw [lawB_o (by decide)]
                exact h.2.2.cz hm hz
            obtain ⟨G5, B5, v1, v2⟩ := lJ368 S3 (by omega) L xs K z8 z10
            rw [u1, bs]
            dsimp only
            rw [if_pos a2.symm, q1, bs, q2, bs, q3, bs, sysTold S3, bs, if_neg (show ¬ (1 : Int32) = 0 by decide)]
            exact ⟨G5, B5, v1, v2.mono (by omega)⟩
          · omega
        · exfalso
          rw [b3, a3] at hH
          have := (jA_neq (by omega) (by omega)).mp hH
          omega
      · rw [if_neg c0]; exact skip
    · rw [if_neg cc]; exact skip
theorem lL161 (L : Nat) (xs : Nat → Int32) : ∀ (j t n k : Nat) (G B : mM), t + j = 26 → j < n → 1 ≤ t → k ≤ 8 * t → Sys k G B → ∃ G', xL_law_T_L161 L xs n (nI t) G = some (0, G') := by
  intro j
  induction j with
  | zero =>
    intro t n k G B ht hn h1 hk h
    obtain ⟨n, rfl⟩ : ∃ m, n = m + 1 := ⟨n - 1, by omega⟩
    rw [xL_law_T_L161, if_pos (show ((26 : Int32)) ≤ nI t from (jA_nle (a := 26) (by decide) (by omega)).mpr (by omega))]
    exact ⟨G, rfl⟩
  | succ j ih =>
    intro t n k G B ht hn h1 hk h
    obtain ⟨n, rfl⟩ : ∃ m, n = m + 1 := ⟨n - 1, by omega⟩
    have e2 : (2 : Int32) * nI t = nI (2 * t) := pk_mul 2 t
    obtain ⟨C1, C2, C3, q1, q2, q3, q4, q5, q6, q7⟩ := copies G (a := 246) (b := 247) (c := 248) (a' := 249) (b' := 250) (c' := 251) (by decide) (by decide) (by decide)
    have hlo : ∀ e, e < 249 → C3 e = G e := fun e he => q4 e (by omega) (by omega) (by omega)
    have S1 := sysRows h hlo
    have key : ∀ v53 v55 ty : Int32, ∃ G', xL_law_T_J267 L xs (xL_law_T_L161 L xs n) (nI t) v53 v55 (C3 243 1) ty C3 = some (0, G') := fun v53 v55 ty => by
      obtain ⟨G', B', e1, e3⟩ := lJ267 S1 (by omega) (fun j hj => by rw [q5 j hj, hlo 246 (by decide)]) (fun j hj => by rw [q6 j hj, hlo 247 (by decide)]) (fun j hj => by rw [q7 j hj, hlo 248 (by decide)]) L xs (xL_law_T_L161 L xs n) (nI t) v53 v55 ty
      rw [e1, show nI t + (1 : Int32) = nI (t + 1) from jA_1 t]
      exact ih (t + 1) n (k + 8) G' B' (by omega) (by omega) (by omega) (by omega) e3
    rw [xL_law_T_L161, if_neg (show ¬ ((26 : Int32)) ≤ nI t from fun q => by have := (jA_nle (a := 26) (by decide) (by omega)).mp q; omega), e2, mCk_t (nI_pos (by omega)), mNm_e, jA_1, mCk_t (nI_pos (by omega)), mNm_e, q1, bs, q2, bs, q3, bs, aCnt5, bs]
    by_cases c1 : nI t = ((1 : Int32))
    · rw [if_pos c1]; exact key _ _ _
    · rw [if_neg c1]
      by_cases c4 : ((4 : Int32)) ≤ nI t
      · rw [if_pos c4]
        by_cases c6 : ((6 : Int32)) ≤ nI t
        · rw [if_pos c6, show xL_at ((cellV L xs (nI (2 * t)) &&& ((2147483647 : Int32))) >>> ((13 : Int32) &&& 31)) ((18 : Int32)) C3 = some (nI (atV ((cellV L xs (nI (2 * t)) &&& ((2147483647 : Int32))) >>> ((13 : Int32) &&& 31)) 18)) from atE _ (by decide) (by decide) _, bs]; exact key _ _ _
        · rw [if_neg c6]; exact key _ _ _
      · rw [if_neg c4]; exact key _ _ _
end LAWB
/-! the beginning -/
def fS : Nat → mR
  | 0 => fun _ => 0
  | i + 1 => upd (upd (fS i) (3 * i) (moSv i)) (3 * i + 1) (moFl i)
def fD : mR := upd (upd (upd (fun _ => 0) 0 7) 2 300) 3 5
set_option maxRecDepth 10000 in
theorem lr00 : LR fD (fS 7) (fun _ => 0) z00 := by
  obtain ⟨hn, hm⟩ := z00_N
  refine ⟨by decide, by rw [hn]; decide, fun s hs => ?_, fun t ht => by rw [hm] at ht; omega⟩
  rw [hn] at hs
  have key : ∀ s : Fin 7, fS 7 (3 * s.1) = z00 (3 * s.1) ∧ fS 7 (3 * s.1 + 2) = z00 (3 * s.1 + 2) ∧ (z00 (3 * s.1 + 1) = 1 ↔ (s.1 = 0 ∨ s.1 + 1 = 7) ∨ fS 7 (3 * s.1 + 1) = 1) := by decide
  unfold rPs rEnd
  rw [hn]
  exact key ⟨s, hs⟩
theorem rx00 : rX z00 := by
  obtain ⟨hn, hm⟩ := z00_N
  refine ⟨fun t ht => by rw [hm] at ht; omega, ?_⟩
  unfold rAc rPeat
  rw [hm]
  decide
set_option maxHeartbeats 4000000 in
theorem lL60 (L : Nat) (xs : Nat → Int32) {M : mM} {D T : mR} : xL_law_T_L60 L xs mFu 0 (lm 246 247 248 M D (fun _ => 0) T) = some (lm 246 247 248 M D (fS 7) T) := by
  have h := lpV (fun n (v : mM) i => xL_law_T_L60 L xs n i v) id (fun i => lm 246 247 248 M D (fS i) T) 7 (by decide) (fun n i hi => ?_) (fun n => ?_)
  · exact h
  · show xL_law_T_L60 L xs (n + 1) (nI i) (lm 246 247 248 M D (fS i) T) = xL_law_T_L60 L xs n (nI (i + 1)) (lm 246 247 248 M D (fS (i + 1)) T)
    rcases (show i = 0 ∨ i = 1 ∨ i = 2 ∨ i = 3 ∨ i = 4 ∨ i = 5 ∨ i = 6 by omega) with rfl | rfl | rfl | rfl | rfl | rfl | rfl
    · rw [xL_law_T_L60, if_neg (show ¬ ((7 : Int32)) ≤ nI 0 by decide), if_pos (show nI 0 = 0 by decide), mCk_t (show mIn (((3 : Int32)) * nI 0) 24 by decide), mNm_e, wS0 d678 (s := 0) (by decide), if_pos (show (nI 0 - nI 0 / ((3 : Int32)) * ((3 : Int32))) = 0 by decide), mCk_t (show mIn ((((3 : Int32)) * nI 0) + ((1 : Int32))) 24 by decide), mNm_e, wS1 d678 (s := 0) (by decide), mNm_e]
      rfl
    · rw [xL_law_T_L60, if_neg (show ¬ ((7 : Int32)) ≤ nI 1 by decide), if_neg (show ¬ nI 1 = 0 by decide), if_neg (show ¬ nI 1 = ((6 : Int32)) by decide), if_neg (show ¬ nI 1 = ((3 : Int32)) by decide), mCk_t (show mIn (((3 : Int32)) * nI 1) 24 by decide), mNm_e, wS0 d678 (s := 1) (by decide), if_neg (show ¬ (nI 1 - nI 1 / ((3 : Int32)) * ((3 : Int32))) = 0 by decide), mCk_t (show mIn ((((3 : Int32)) * nI 1) + ((1 : Int32))) 24 by decide), mNm_e, wS1 d678 (s := 1) (by decide), mNm_e]
      rfl
    · rw [xL_law_T_L60, if_neg (show ¬ ((7 : Int32)) ≤ nI 2 by decide), if_neg (show ¬ nI 2 = 0 by decide), if_neg (show ¬ nI 2 = ((6 : Int32)) by decide), if_neg (show ¬ nI 2 = ((3 : Int32)) by decide), mCk_t (show mIn (((3 : Int32)) * nI 2) 24 by decide), mNm_e, wS0 d678 (s := 2) (by decide), if_neg (show ¬ (nI 2 - nI 2 / ((3 : Int32)) * ((3 : Int32))) = 0 by decide), mCk_t (show mIn ((((3 : Int32)) * nI 2) + ((1 : Int32))) 24 by decide), mNm_e, wS1 d678 (s := 2) (by decide), mNm_e]
      rfl
    · rw [xL_law_T_L60, if_neg (show ¬ ((7 : Int32)) ≤ nI 3 by decide), if_neg (show ¬ nI 3 = 0 by decide), if_neg (show ¬ nI 3 = ((6 : Int32)) by decide), if_pos (show nI 3 = ((3 : Int32)) by decide), mCk_t (show mIn (((3 : Int32)) * nI 3) 24 by decide), mNm_e, wS0 d678 (s := 3) (by decide), if_pos (show (nI 3 - nI 3 / ((3 : Int32)) * ((3 : Int32))) = 0 by decide), mCk_t (show mIn ((((3 : Int32)) * nI 3) + ((1 : Int32))) 24 by decide), mNm_e, wS1 d678 (s := 3) (by decide), mNm_e]
      rfl
    · rw [xL_law_T_L60, if_neg (show ¬ ((7 : Int32)) ≤ nI 4 by decide), if_neg (show ¬ nI 4 = 0 by decide), if_neg (show ¬ nI 4 = ((6 : Int32)) by decide), if_neg (show ¬ nI 4 = ((3 : Int32)) by decide), mCk_t (show mIn (((3 : Int32)) * nI 4) 24 by decide), mNm_e, wS0 d678 (s := 4) (by decide), if_neg (show ¬ (nI 4 - nI 4 / ((3 : Int32)) * ((3 : Int32))) = 0 by decide), mCk_t (show mIn ((((3 : Int32)) * nI 4) + ((1 : Int32))) 24 by decide), mNm_e, wS1 d678 (s := 4) (by decide), mNm_e]
      rfl
    · rw [xL_law_T_L60, if_neg (show ¬ ((7 : Int32)) ≤ nI 5 by decide), if_neg (show ¬ nI 5 = 0 by decide), if_neg (show ¬ nI 5 = ((6 : Int32)) by decide), if_neg (show ¬ nI 5 = ((3 : Int32)) by decide), mCk_t (show mIn (((3 : Int32)) * nI 5) 24 by decide), mNm_e, wS0 d678 (s := 5) (by decide), if_neg (show ¬ (nI 5 - nI 5 / ((3 : Int32)) * ((3 : Int32))) = 0 by decide), mCk_t (show mIn ((((3 : Int32)) * nI 5) + ((1 : Int32))) 24 by decide), mNm_e, wS1 d678 (s := 5) (by decide), mNm_e]
      rfl
    · rw [xL_law_T_L60, if_neg (show ¬ ((7 : Int32)) ≤ nI 6 by decide), if_neg (show ¬ nI 6 = 0 by decide), if_pos (show nI 6 = ((6 : Int32)) by decide), mCk_t (show mIn (((3 : Int32)) * nI 6) 24 by decide), mNm_e, wS0 d678 (s := 6) (by decide), if_pos (show (nI 6 - nI 6 / ((3 : Int32)) * ((3 : Int32))) = 0 by decide), mCk_t (show mIn ((((3 : Int32)) * nI 6) + ((1 : Int32))) 24 by decide), mNm_e, wS1 d678 (s := 6) (by decide), mNm_e]
      rfl
  · show xL_law_T_L60 L xs (n + 1) (nI 7) _ = _
    rw [xL_law_T_L60, if_pos (show ((7 : Int32)) ≤ nI 7 by decide)]
    rfl
set_option maxHeartbeats 4000000 in
/-- whatever the script, the law's body answers 1 -/
theorem lLaw (L : Nat) (xs : Nat → Int32) {A : mM} (hR : Rel 0 A gMo) : ∃ M', xL_law_T L xs (rz (rz (rz (rz (rz (rz A 246) 247) 248) 249) 250) 251) = some ((1 : Int32), M') := by
  obtain ⟨M, hM⟩ : ∃ M, M = rz (rz (rz (rz (rz (rz A 246) 247) 248) 249) 250) 251 := ⟨_, rfl⟩
  have hlo : ∀ e, e < 246 → M e = A e := fun e he => by rw [hM, rz_o (by omega), rz_o (by omega), rz_o (by omega), rz_o (by omega), rz_o (by omega), rz_o (by omega)]
  have eM : M = lm 246 247 248 M (fun _ => 0) (fun _ => 0) (fun _ => 0) := by
    have ea : M 246 = fun _ => 0 := by rw [hM, rz_o (by decide), rz_o (by decide), rz_o (by decide), rz_o (by decide), rz_o (by decide), rz_s]
    have eb : M 247 = fun _ => 0 := by rw [hM, rz_o (by decide), rz_o (by decide), rz_o (by decide), rz_o (by decide), rz_s]
    have ec : M 248 = fun _ => 0 := by rw [hM, rz_o (by decide), rz_o (by decide), rz_o (by decide), rz_s]
    have := lm_id (a := 246) (b := 247) (c := 248) (G := M)
    rw [ea, eb, ec] at this
    exact this.symm
  rw [← hM]
  have S0 : Sys 0 (lm 246 247 248 M fD (fS 7) (fun _ => 0)) (lawB gMo (lm 246 247 248 M fD (fS 7) (fun _ => 0))) := by
    refine ⟨hR.law (fun e he => by rw [lm_o (by omega) (by omega) (by omega), hlo e he]), ?_, ?_⟩
    · rw [lm_a, lm_b d678, lm_c d678, lawB_o (by decide)]
      exact lr00
    · rw [lawB_o (by decide)]
      exact rx00
  obtain ⟨A1, B1, e1, R1, z1, k1, hB1⟩ := oUndo0 S0.1 (by rw [lawB_o (by decide)]; rfl)
  subst hB1
  obtain ⟨A2, B2, e2, R2, z2, k2, hB2⟩ := oBack0 R1 (by rw [lawB_o (by decide)]; rfl)
  subst hB2
  have S2 : Sys 2 A2 (lawB gMo (lm 246 247 248 M fD (fS 7) (fun _ => 0))) := by
    refine ⟨R2, ?_, S0.2.2⟩
    rw [k2 246 (by decide), k2 247 (by decide), k2 248 (by decide), k1 246 (by decide), k1 247 (by decide), k1 248 (by decide)]
    exact S0.2.1
  obtain ⟨G', hG'⟩ := lL161 L xs 25 1 27 2 A2 _ rfl (by decide) (by decide) (by decide) S2
  unfold xL_law_T
  rw [eM, mNm_e, lm_ua, mNm_e, lm_ua, mNm_e, lm_ua, show xL_law_T_L60 L xs mFu ((0 : Int32)) (lm 246 247 248 M (upd (upd (upd (fun _ => 0) 0 ((7 : Int32))) 2 ((300 : Int32))) 3 ((5 : Int32))) (fun _ => 0) (fun _ => 0)) = some (lm 246 247 248 M fD (fS 7) (fun _ => 0)) from lL60 L xs, bs, e1, bs]
  dsimp only
  rw [if_pos (show (-3 : Int32) = ((-3 : Int32)) from rfl), e2, bs]
  dsimp only
  rw [if_pos (show (-3 : Int32) = ((-3 : Int32)) from rfl), sysTold S2, bs, if_neg (show ¬ (1 : Int32) = 0 by decide), show xL_law_T_L161 L xs 27 ((1 : Int32)) A2 = some (0, G') from hG', bs]
  dsimp only
  rw [if_pos rfl]
  exact ⟨G', rfl⟩
