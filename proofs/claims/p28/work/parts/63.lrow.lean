/-! THE LAW'S ROWS: d, sg, tr in its memory, and how they stand to the row z of a state -/
def lm (a b c : Nat) (G : mM) (D S T : mR) : mM := fun e k => if e = a then D k else if e = b then S k else if e = c then T k else G e k
abbrev l3 (a b c : Nat) : Prop := a ≠ b ∧ a ≠ c ∧ b ≠ c
theorem lm_a {a b c : Nat} {G : mM} {D S T : mR} : lm a b c G D S T a = D := by funext k; simp [lm]
theorem lm_b {a b c : Nat} {G : mM} {D S T : mR} (h : l3 a b c) : lm a b c G D S T b = S := by funext k; simp [lm, Ne.symm h.1]
theorem lm_c {a b c : Nat} {G : mM} {D S T : mR} (h : l3 a b c) : lm a b c G D S T c = T := by funext k; simp [lm, Ne.symm h.2.1, Ne.symm h.2.2]
theorem lm_o {a b c e : Nat} {G : mM} {D S T : mR} (h1 : e ≠ a) (h2 : e ≠ b) (h3 : e ≠ c) : lm a b c G D S T e = G e := by funext k; simp [lm, h1, h2, h3]
theorem lm_ua {a b c : Nat} {G : mM} {D S T : mR} {k : Nat} {v : Int32} : up2 (lm a b c G D S T) a k v = lm a b c G (upd D k v) S T := by
  funext e j
  unfold up2 lm upd
  by_cases h : e = a <;> simp [h]
theorem lm_ub {a b c : Nat} {G : mM} {D S T : mR} {k : Nat} {v : Int32} (h3 : l3 a b c) : up2 (lm a b c G D S T) b k v = lm a b c G D (upd S k v) T := by
  funext e j
  unfold up2 lm upd
  by_cases h : e = b
  · simp [h, Ne.symm h3.1]
  · simp [h]
theorem lm_uc {a b c : Nat} {G : mM} {D S T : mR} {k : Nat} {v : Int32} (h3 : l3 a b c) : up2 (lm a b c G D S T) c k v = lm a b c G D S (upd T k v) := by
  funext e j
  unfold up2 lm upd
  by_cases h : e = c
  · simp [h, Ne.symm h3.2.1, Ne.symm h3.2.2]
  · simp [h]
theorem lm_id {a b c : Nat} {G : mM} : lm a b c G (G a) (G b) (G c) = G := by
  funext e k
  unfold lm
  by_cases h1 : e = a
  · rw [if_pos h1, h1]
  · by_cases h2 : e = b
    · rw [if_neg h1, if_pos h2, h2]
    · by_cases h3 : e = c
      · rw [if_neg h1, if_neg h2, if_pos h3, h3]
      · rw [if_neg h1, if_neg h2, if_neg h3]
theorem lm_lm {a b c : Nat} {G : mM} {D S T D' S' T' : mR} : lm a b c (lm a b c G D S T) D' S' T' = lm a b c G D' S' T' := by
  funext e k
  unfold lm
  by_cases h1 : e = a <;> by_cases h2 : e = b <;> by_cases h3 : e = c <;> simp [h1, h2, h3]
theorem tI {t k : Nat} (h : 10 * t + k < 40) : mIn ((10 : Int32) * nI t + nI k) 40 ∧ ((10 : Int32) * nI t + nI k).toNatClampNeg = 10 * t + k := by
  have e : (10 : Int32) * nI t + nI k = nI (10 * t + k) := by rw [show (10 : Int32) * nI t = nI (10 * t) from pk_mul 10 t, nI_add]
  rw [e]
  exact ⟨jA_in h (by decide), jA_clamp (by omega)⟩
theorem sI {s k : Nat} (h : 3 * s + k < 24) : mIn ((3 : Int32) * nI s + nI k) 24 ∧ ((3 : Int32) * nI s + nI k).toNatClampNeg = 3 * s + k := by
  have e : (3 : Int32) * nI s + nI k = nI (3 * s + k) := by rw [show (3 : Int32) * nI s = nI (3 * s) from pk_mul 3 s, nI_add]
  rw [e]
  exact ⟨jA_in h (by decide), jA_clamp (by omega)⟩
theorem tk0 {t : Nat} (h : t < 4) : mIn ((10 : Int32) * nI t) 40 := by rw [show (10 : Int32) * nI t = nI (10 * t) from pk_mul 10 t]; exact jA_in (by omega) (by decide)
theorem tc0 {t : Nat} (h : t < 4) : ((10 : Int32) * nI t).toNatClampNeg = 10 * t := by rw [show (10 : Int32) * nI t = nI (10 * t) from pk_mul 10 t]; exact jA_clamp (by omega)
theorem sk0 {s : Nat} (h : s < 8) : mIn ((3 : Int32) * nI s) 24 := by rw [show (3 : Int32) * nI s = nI (3 * s) from pk_mul 3 s]; exact jA_in (by omega) (by decide)
theorem sc0 {s : Nat} (h : s < 8) : ((3 : Int32) * nI s).toNatClampNeg = 3 * s := by rw [show (3 : Int32) * nI s = nI (3 * s) from pk_mul 3 s]; exact jA_clamp (by omega)
theorem tk1 {t : Nat} (h : t < 4) : mIn ((10 : Int32) * nI t + (1 : Int32)) 40 := (tI (t := t) (k := 1) (by omega)).1
theorem tc1 {t : Nat} (h : t < 4) : ((10 : Int32) * nI t + (1 : Int32)).toNatClampNeg = 10 * t + 1 := (tI (t := t) (k := 1) (by omega)).2
theorem tk2 {t : Nat} (h : t < 4) : mIn ((10 : Int32) * nI t + (2 : Int32)) 40 := (tI (t := t) (k := 2) (by omega)).1
theorem tc2 {t : Nat} (h : t < 4) : ((10 : Int32) * nI t + (2 : Int32)).toNatClampNeg = 10 * t + 2 := (tI (t := t) (k := 2) (by omega)).2
theorem tk3 {t : Nat} (h : t < 4) : mIn ((10 : Int32) * nI t + (3 : Int32)) 40 := (tI (t := t) (k := 3) (by omega)).1
theorem tc3 {t : Nat} (h : t < 4) : ((10 : Int32) * nI t + (3 : Int32)).toNatClampNeg = 10 * t + 3 := (tI (t := t) (k := 3) (by omega)).2
theorem tk4 {t : Nat} (h : t < 4) : mIn ((10 : Int32) * nI t + (4 : Int32)) 40 := (tI (t := t) (k := 4) (by omega)).1
theorem tc4 {t : Nat} (h : t < 4) : ((10 : Int32) * nI t + (4 : Int32)).toNatClampNeg = 10 * t + 4 := (tI (t := t) (k := 4) (by omega)).2
theorem tk5 {t : Nat} (h : t < 4) : mIn ((10 : Int32) * nI t + (5 : Int32)) 40 := (tI (t := t) (k := 5) (by omega)).1
theorem tc5 {t : Nat} (h : t < 4) : ((10 : Int32) * nI t + (5 : Int32)).toNatClampNeg = 10 * t + 5 := (tI (t := t) (k := 5) (by omega)).2
theorem tk6 {t : Nat} (h : t < 4) : mIn ((10 : Int32) * nI t + (6 : Int32)) 40 := (tI (t := t) (k := 6) (by omega)).1
theorem tc6 {t : Nat} (h : t < 4) : ((10 : Int32) * nI t + (6 : Int32)).toNatClampNeg = 10 * t + 6 := (tI (t := t) (k := 6) (by omega)).2
theorem tk7 {t : Nat} (h : t < 4) : mIn ((10 : Int32) * nI t + (7 : Int32)) 40 := (tI (t := t) (k := 7) (by omega)).1
theorem tc7 {t : Nat} (h : t < 4) : ((10 : Int32) * nI t + (7 : Int32)).toNatClampNeg = 10 * t + 7 := (tI (t := t) (k := 7) (by omega)).2
theorem tk8 {t : Nat} (h : t < 4) : mIn ((10 : Int32) * nI t + (8 : Int32)) 40 := (tI (t := t) (k := 8) (by omega)).1
theorem tc8 {t : Nat} (h : t < 4) : ((10 : Int32) * nI t + (8 : Int32)).toNatClampNeg = 10 * t + 8 := (tI (t := t) (k := 8) (by omega)).2
theorem tk9 {t : Nat} (h : t < 4) : mIn ((10 : Int32) * nI t + (9 : Int32)) 40 := (tI (t := t) (k := 9) (by omega)).1
theorem tc9 {t : Nat} (h : t < 4) : ((10 : Int32) * nI t + (9 : Int32)).toNatClampNeg = 10 * t + 9 := (tI (t := t) (k := 9) (by omega)).2
theorem sk1 {s : Nat} (h : s < 8) : mIn ((3 : Int32) * nI s + (1 : Int32)) 24 := (sI (s := s) (k := 1) (by omega)).1
theorem sc1 {s : Nat} (h : s < 8) : ((3 : Int32) * nI s + (1 : Int32)).toNatClampNeg = 3 * s + 1 := (sI (s := s) (k := 1) (by omega)).2
theorem sk2 {s : Nat} (h : s < 8) : mIn ((3 : Int32) * nI s + (2 : Int32)) 24 := (sI (s := s) (k := 2) (by omega)).1
theorem sc2 {s : Nat} (h : s < 8) : ((3 : Int32) * nI s + (2 : Int32)).toNatClampNeg = 3 * s + 2 := (sI (s := s) (k := 2) (by omega)).2
theorem dk0 : mIn (0 : Int32) 10 := by decide
theorem dc0 : ((0 : Int32)).toNatClampNeg = 0 := by decide
theorem dk1 : mIn (1 : Int32) 10 := by decide
theorem dc1 : ((1 : Int32)).toNatClampNeg = 1 := by decide
theorem dk2 : mIn (2 : Int32) 10 := by decide
theorem dc2 : ((2 : Int32)).toNatClampNeg = 2 := by decide
theorem dk3 : mIn (3 : Int32) 10 := by decide
theorem dc3 : ((3 : Int32)).toNatClampNeg = 3 := by decide
theorem dk4 : mIn (4 : Int32) 10 := by decide
theorem dc4 : ((4 : Int32)).toNatClampNeg = 4 := by decide
theorem dk5 : mIn (5 : Int32) 10 := by decide
theorem dc5 : ((5 : Int32)).toNatClampNeg = 5 := by decide
theorem dk6 : mIn (6 : Int32) 10 := by decide
theorem dc6 : ((6 : Int32)).toNatClampNeg = 6 := by decide
theorem dk7 : mIn (7 : Int32) 10 := by decide
theorem dc7 : ((7 : Int32)).toNatClampNeg = 7 := by decide
theorem dk8 : mIn (8 : Int32) 10 := by decide
theorem dc8 : ((8 : Int32)).toNatClampNeg = 8 := by decide
theorem dk9 : mIn (9 : Int32) 10 := by decide
theorem dc9 : ((9 : Int32)).toNatClampNeg = 9 := by decide
/-- the rows d, sg, tr tell what z tells -/
def LR (D S T z : mR) : Prop :=
  (D 0 = z 72 ∧ D 1 = z 73 ∧ D 2 = z 75 ∧ D 3 = z 76 ∧ D 4 = z 77 ∧ D 5 = z 78 ∧ D 6 = z 79 ∧ D 7 = z 80 ∧ D 8 = z 81 ∧ D 9 = z 74) ∧ rN z ≤ 8 ∧
  (∀ s, s < rN z → S (3 * s) = z (3 * s) ∧ S (3 * s + 2) = z (3 * s + 2) ∧ (rPs z s ↔ rEnd z s ∨ S (3 * s + 1) = 1)) ∧
  ∀ t, t < rM z → ∀ k, k < 9 → T (10 * t + k) = z (36 + 9 * t + k)
theorem LR.tr {D S T z : mR} (h : LR D S T z) {t : Nat} (ht : t < rM z) {k : Nat} (hk : k < 9) : T (10 * t + k) = z (36 + 9 * t + k) := h.2.2.2 t ht k hk
theorem LR.tr0 {D S T z : mR} (h : LR D S T z) {t : Nat} (ht : t < rM z) : T (10 * t) = z (36 + 9 * t + 0) := h.2.2.2 t ht 0 (by decide)
theorem LR.d0 {D S T z : mR} (h : LR D S T z) (hi : rInv z) : D 0 = nI (rN z) := h.1.1.trans hi.zn
theorem LR.d1 {D S T z : mR} (h : LR D S T z) (hi : rInv z) : D 1 = nI (rM z) := h.1.2.1.trans hi.zm
/-- a train's place of its row -/
theorem LR.put {D S T z : mR} (h : LR D S T z) (hM : rM z ≤ 4) {t k : Nat} {v : Int32} (ht : t < rM z) (hk : k < 9) : LR D S (upd T (10 * t + k) v) (upd z (36 + 9 * t + k) v) := by
  obtain ⟨⟨h0, h1, h2, h3, h4, h5, h6, h7, h8, h9⟩, hN, hs, ht'⟩ := h
  have eN : rN (upd z (36 + 9 * t + k) v) = rN z := rN_upd (by omega)
  have eM : rM (upd z (36 + 9 * t + k) v) = rM z := rM_upd (by omega)
  refine ⟨⟨?_, ?_, ?_, ?_, ?_, ?_, ?_, ?_, ?_, ?_⟩, by rw [eN]; exact hN, fun s hs' => ?_, fun t' ht'' k' hk' => ?_⟩
  any_goals (rw [upd_n (by omega)]; assumption)
  · rw [eN] at hs'
    unfold rPs rEnd
    rw [eN, upd_n (by omega), upd_n (by omega), upd_n (by omega)]
    exact hs s hs'
  · rw [eM] at ht''
    by_cases e : t' = t ∧ k' = k
    · rw [e.1, e.2, upd_s, upd_s]
    · rw [upd_n (by omega), upd_n (by omega)]
      exact ht' t' ht'' k' hk'
/-- the law's own mark of a train -/
theorem LR.mark {D S T z : mR} (h : LR D S T z) (hM : rM z ≤ 4) {t : Nat} {v : Int32} : LR D S (upd T (10 * t + 9) v) z := by
  refine ⟨h.1, h.2.1, h.2.2.1, fun t' ht'' k' hk' => ?_⟩
  rw [upd_n (by omega)]
  exact h.2.2.2 t' ht'' k' hk'

theorem LR.sc2 {D S T z : mR} (h : LR D S T z) (hM : rM z ≤ 4) {v : Int32} : LR (upd D 2 v) S T (upd z 75 v) := by
  obtain ⟨⟨h0, h1, h2, h3, h4, h5, h6, h7, h8, h9⟩, hN, hs, ht'⟩ := h
  have eN : rN (upd z 75 v) = rN z := rN_upd (by decide)
  have eM : rM (upd z 75 v) = rM z := rM_upd (by decide)
  refine ⟨⟨?_, ?_, ?_, ?_, ?_, ?_, ?_, ?_, ?_, ?_⟩, by rw [eN]; exact hN, fun s hs' => ?_, fun t' ht'' k' hk' => ?_⟩
  any_goals (first | (rw [upd_n (by decide), upd_n (by decide)]; assumption) | (rw [upd_s, upd_s]))
  · rw [eN] at hs'
    unfold rPs rEnd
    rw [eN, upd_n (by omega), upd_n (by omega), upd_n (by omega)]
    exact hs s hs'
  · rw [eM] at ht''
    rw [upd_n (by omega)]
    exact ht' t' ht'' k' hk'
theorem LR.sc3 {D S T z : mR} (h : LR D S T z) (hM : rM z ≤ 4) {v : Int32} : LR (upd D 3 v) S T (upd z 76 v) := by
  obtain ⟨⟨h0, h1, h2, h3, h4, h5, h6, h7, h8, h9⟩, hN, hs, ht'⟩ := h
  have eN : rN (upd z 76 v) = rN z := rN_upd (by decide)
  have eM : rM (upd z 76 v) = rM z := rM_upd (by decide)
  refine ⟨⟨?_, ?_, ?_, ?_, ?_, ?_, ?_, ?_, ?_, ?_⟩, by rw [eN]; exact hN, fun s hs' => ?_, fun t' ht'' k' hk' => ?_⟩
  any_goals (first | (rw [upd_n (by decide), upd_n (by decide)]; assumption) | (rw [upd_s, upd_s]))
  · rw [eN] at hs'
    unfold rPs rEnd
    rw [eN, upd_n (by omega), upd_n (by omega), upd_n (by omega)]
    exact hs s hs'
  · rw [eM] at ht''
    rw [upd_n (by omega)]
    exact ht' t' ht'' k' hk'
theorem LR.sc4 {D S T z : mR} (h : LR D S T z) (hM : rM z ≤ 4) {v : Int32} : LR (upd D 4 v) S T (upd z 77 v) := by
  obtain ⟨⟨h0, h1, h2, h3, h4, h5, h6, h7, h8, h9⟩, hN, hs, ht'⟩ := h
  have eN : rN (upd z 77 v) = rN z := rN_upd (by decide)
  have eM : rM (upd z 77 v) = rM z := rM_upd (by decide)
  refine ⟨⟨?_, ?_, ?_, ?_, ?_, ?_, ?_, ?_, ?_, ?_⟩, by rw [eN]; exact hN, fun s hs' => ?_, fun t' ht'' k' hk' => ?_⟩
  any_goals (first | (rw [upd_n (by decide), upd_n (by decide)]; assumption) | (rw [upd_s, upd_s]))
  · rw [eN] at hs'
    unfold rPs rEnd
    rw [eN, upd_n (by omega), upd_n (by omega), upd_n (by omega)]
    exact hs s hs'
  · rw [eM] at ht''
    rw [upd_n (by omega)]
    exact ht' t' ht'' k' hk'
theorem LR.sc5 {D S T z : mR} (h : LR D S T z) (hM : rM z ≤ 4) {v : Int32} : LR (upd D 5 v) S T (upd z 78 v) := by
  obtain ⟨⟨h0, h1, h2, h3, h4, h5, h6, h7, h8, h9⟩, hN, hs, ht'⟩ := h
  have eN : rN (upd z 78 v) = rN z := rN_upd (by decide)
  have eM : rM (upd z 78 v) = rM z := rM_upd (by decide)
  refine ⟨⟨?_, ?_, ?_, ?_, ?_, ?_, ?_, ?_, ?_, ?_⟩, by rw [eN]; exact hN, fun s hs' => ?_, fun t' ht'' k' hk' => ?_⟩
  any_goals (first | (rw [upd_n (by decide), upd_n (by decide)]; assumption) | (rw [upd_s, upd_s]))
  · rw [eN] at hs'
    unfold rPs rEnd
    rw [eN, upd_n (by omega), upd_n (by omega), upd_n (by omega)]
    exact hs s hs'
  · rw [eM] at ht''
    rw [upd_n (by omega)]
    exact ht' t' ht'' k' hk'
theorem LR.sc6 {D S T z : mR} (h : LR D S T z) (hM : rM z ≤ 4) {v : Int32} : LR (upd D 6 v) S T (upd z 79 v) := by
  obtain ⟨⟨h0, h1, h2, h3, h4, h5, h6, h7, h8, h9⟩, hN, hs, ht'⟩ := h
  have eN : rN (upd z 79 v) = rN z := rN_upd (by decide)
  have eM : rM (upd z 79 v) = rM z := rM_upd (by decide)
  refine ⟨⟨?_, ?_, ?_, ?_, ?_, ?_, ?_, ?_, ?_, ?_⟩, by rw [eN]; exact hN, fun s hs' => ?_, fun t' ht'' k' hk' => ?_⟩
  any_goals (first | (rw [upd_n (by decide), upd_n (by decide)]; assumption) | (rw [upd_s, upd_s]))
  · rw [eN] at hs'
    unfold rPs rEnd
    rw [eN, upd_n (by omega), upd_n (by omega), upd_n (by omega)]
    exact hs s hs'
  · rw [eM] at ht''
    rw [upd_n (by omega)]
    exact ht' t' ht'' k' hk'
theorem LR.sc7 {D S T z : mR} (h : LR D S T z) (hM : rM z ≤ 4) {v : Int32} : LR (upd D 7 v) S T (upd z 80 v) := by
  obtain ⟨⟨h0, h1, h2, h3, h4, h5, h6, h7, h8, h9⟩, hN, hs, ht'⟩ := h
  have eN : rN (upd z 80 v) = rN z := rN_upd (by decide)
  have eM : rM (upd z 80 v) = rM z := rM_upd (by decide)
  refine ⟨⟨?_, ?_, ?_, ?_, ?_, ?_, ?_, ?_, ?_, ?_⟩, by rw [eN]; exact hN, fun s hs' => ?_, fun t' ht'' k' hk' => ?_⟩
  any_goals (first | (rw [upd_n (by decide), upd_n (by decide)]; assumption) | (rw [upd_s, upd_s]))
  · rw [eN] at hs'
    unfold rPs rEnd
    rw [eN, upd_n (by omega), upd_n (by omega), upd_n (by omega)]
    exact hs s hs'
  · rw [eM] at ht''
    rw [upd_n (by omega)]
    exact ht' t' ht'' k' hk'
theorem LR.sc8 {D S T z : mR} (h : LR D S T z) (hM : rM z ≤ 4) {v : Int32} : LR (upd D 8 v) S T (upd z 81 v) := by
  obtain ⟨⟨h0, h1, h2, h3, h4, h5, h6, h7, h8, h9⟩, hN, hs, ht'⟩ := h
  have eN : rN (upd z 81 v) = rN z := rN_upd (by decide)
  have eM : rM (upd z 81 v) = rM z := rM_upd (by decide)
  refine ⟨⟨?_, ?_, ?_, ?_, ?_, ?_, ?_, ?_, ?_, ?_⟩, by rw [eN]; exact hN, fun s hs' => ?_, fun t' ht'' k' hk' => ?_⟩
  any_goals (first | (rw [upd_n (by decide), upd_n (by decide)]; assumption) | (rw [upd_s, upd_s]))
  · rw [eN] at hs'
    unfold rPs rEnd
    rw [eN, upd_n (by omega), upd_n (by omega), upd_n (by omega)]
    exact hs s hs'
  · rw [eM] at ht''
    rw [upd_n (by omega)]
    exact ht' t' ht'' k' hk'
theorem LR.sc9 {D S T z : mR} (h : LR D S T z) (hM : rM z ≤ 4) {v : Int32} : LR (upd D 9 v) S T (upd z 74 v) := by
  obtain ⟨⟨h0, h1, h2, h3, h4, h5, h6, h7, h8, h9⟩, hN, hs, ht'⟩ := h
  have eN : rN (upd z 74 v) = rN z := rN_upd (by decide)
  have eM : rM (upd z 74 v) = rM z := rM_upd (by decide)
  refine ⟨⟨?_, ?_, ?_, ?_, ?_, ?_, ?_, ?_, ?_, ?_⟩, by rw [eN]; exact hN, fun s hs' => ?_, fun t' ht'' k' hk' => ?_⟩
  any_goals (first | (rw [upd_n (by decide), upd_n (by decide)]; assumption) | (rw [upd_s, upd_s]))
  · rw [eN] at hs'
    unfold rPs rEnd
    rw [eN, upd_n (by omega), upd_n (by omega), upd_n (by omega)]
    exact hs s hs'
  · rw [eM] at ht''
    rw [upd_n (by omega)]
    exact ht' t' ht'' k' hk'
/-! what the law reads: passing, room, weight, there, many -/
section LAWR
variable {a b c : Nat} {G : mM} {D S T z : mR}
theorem lPs (h3 : l3 a b c) (hL : LR D S T z) (hi : rInv z) {k : Nat} (hk : k < rN z) : xL_passing (nI k) a 10 b 24 (lm a b c G D S T) = some (if rPs z k then 1 else 0) := by
  have hn := hi.n
  have h8 := hL.2.1
  have hp := (hL.2.2.1 k hk).2.2
  unfold xL_passing
  by_cases k0 : k = 0
  · subst k0
    rw [if_pos (show nI 0 = (0 : Int32) from rfl), if_pos hi.first]
  · rw [if_neg (nI_ne k0 (by omega)), mCk_t dk0, lm_a, dc0, hL.d0 hi, show nI (rN z) - (1 : Int32) = nI (rN z - 1) from pk_sub (b := 1) (by omega)]
    by_cases k1 : k = rN z - 1
    · rw [if_pos (by rw [k1]), if_pos (by rw [k1]; exact hi.last)]
    · rw [if_neg (fun q => k1 ((jA_neq (by omega) (by omega)).mp q)), mCk_t (sk1 (by omega)), lm_b h3, sc1 (by omega)]
      have he : ¬ rEnd z k := fun q => by rcases q with q | q <;> omega
      by_cases hP : rPs z k
      · rw [if_pos hP, if_pos ((hp.mp hP).resolve_left he)]
      · rw [if_neg hP, if_neg (fun q => hP (hp.mpr (Or.inr q)))]
theorem lRoom (h3 : l3 a b c) (hL : LR D S T z) (hi : rInv z) {k : Nat} (hk : k < rN z) : xL_room (nI k) a 10 b 24 (lm a b c G D S T) = some (rRoom z k) := by
  have hn := hi.n
  have h8 := hL.2.1
  unfold xL_room rRoom
  by_cases k0 : k = 0
  · subst k0
    rw [if_pos (show nI 0 = (0 : Int32) from rfl), if_pos (show rEnd z 0 from Or.inl rfl)]
  · rw [if_neg (nI_ne k0 (by omega)), mCk_t dk0, lm_a, dc0, hL.d0 hi, show nI (rN z) - (1 : Int32) = nI (rN z - 1) from pk_sub (b := 1) (by omega)]
    by_cases k1 : k = rN z - 1
    · rw [if_pos (by rw [k1]), if_pos (show rEnd z k from Or.inr (by omega))]
    · have he : ¬ rEnd z k := fun q => by rcases q with q | q <;> omega
      rw [if_neg (fun q => k1 ((jA_neq (by omega) (by omega)).mp q)), lPs h3 hL hi hk, bs, if_neg he]
      by_cases hP : rPs z k
      · rw [if_pos hP, if_pos hP, if_neg one_ne]
      · rw [if_neg hP, if_neg hP, if_pos rfl]
theorem lW (h3 : l3 a b c) (hL : LR D S T z) (hi : rInv z) {t : Nat} (ht : t < rM z) : xL_weight (nI t) c 40 (lm a b c G D S T) = some (rW z t) := by
  have hm := hi.m
  unfold xL_weight rW
  rw [mCk_t (tk0 (by omega)), mCk_t (tk2 (by omega)), lm_c h3, tc0 (by omega), tc2 (by omega), hL.tr0 ht, hL.tr ht (by decide)]
def thV (z : mR) (x : Int32) (n : Nat) : Int32 := sumI (fun t => if z (36 + 9 * t + 3) = x then (if z (36 + 9 * t + 4) = 1 then 1 else 100) + 10000 * rW z t else 0) n
theorem lThere (h3 : l3 a b c) (hL : LR D S T z) (hi : rInv z) (x : Int32) : xL_there x a 10 c 40 (lm a b c G D S T) = some (thV z x (rM z)) := by
  have hm := hi.m
  unfold xL_there
  have h := lpV (fun n w i => xL_there_L5 x a 10 c 40 n w i (lm a b c G D S T)) id (fun i => thV z x i) (rM z) (by omega) (fun n i hn => ?_) (fun n => ?_)
  · rw [show xL_there_L5 x a 10 c 40 mFu 0 0 (lm a b c G D S T) = some (thV z x (rM z)) from h, bs]
  · show xL_there_L5 x a 10 c 40 (n + 1) _ (nI i) (lm a b c G D S T) = xL_there_L5 x a 10 c 40 n _ (nI (i + 1)) (lm a b c G D S T)
    rw [xL_there_L5, mCk_t dk1, lm_a, dc1, hL.d1 hi, if_neg (fun q => by have := (jA_nle (by omega) (by omega)).mp q; omega), mCk_t (tk3 (by omega)), lm_c h3, tc3 (by omega), hL.tr hn (by decide)]
    unfold thV
    rw [sumI]
    by_cases h2 : z (36 + 9 * i + 3) = x
    · rw [if_pos h2, if_pos h2, mCk_t (tk4 (by omega)), tc4 (by omega), hL.tr hn (by decide)]
      by_cases h4 : z (36 + 9 * i + 4) = 1
      · rw [if_pos h4, if_pos h4, lW h3 hL hi hn, bs, mNm_e, mNm_e, jA_1]
      · rw [if_neg h4, if_neg h4, lW h3 hL hi hn, bs, mNm_e, mNm_e, jA_1]
    · rw [if_neg h2, if_neg h2, mNm_e, jA_1, Int32.add_zero]
  · show xL_there_L5 x a 10 c 40 (n + 1) _ (nI (rM z)) (lm a b c G D S T) = _
    rw [xL_there_L5, mCk_t dk1, lm_a, dc1, hL.d1 hi, if_pos ((jA_nle (by omega) (by omega)).mpr (Nat.le_refl _))]
    rfl
end LAWR
/-! counts as natural numbers -/
def sumN (f : Nat → Nat) : Nat → Nat
  | 0 => 0
  | n + 1 => sumN f n + f n
def cN (z : mR) (o : Nat) (up : Int32) (n : Nat) : Nat := sumN (fun t => if rPl z t = o ∧ z (36 + 9 * t + 4) = up then 1 else 0) n
def wN (z : mR) (o : Nat) (n : Nat) : Nat := sumN (fun t => if rPl z t = o then (rW z t).toNatClampNeg else 0) n
theorem rW_n {z : mR} (hi : rInv z) {t : Nat} (ht : t < rM z) : rW z t = nI (rW z t).toNatClampNeg ∧ 1 ≤ (rW z t).toNatClampNeg ∧ (rW z t).toNatClampNeg ≤ 136 := by
  have h := rW_in hi ht
  obtain ⟨j, h1, h2, h3⟩ := jA_of (x := rW z t) (n := 137) (by omega) (by omega)
  rw [h3]
  refine ⟨h2, ?_, by omega⟩
  rw [h2, jA_n (by omega)] at h
  omega
theorem thV_n {z : mR} (hi : rInv z) {o : Nat} (ho : o < 100) : ∀ n, n ≤ rM z → thV z (nI o) n = nI (cN z o 1 n + 100 * cN z o 0 n + 10000 * wN z o n) ∧ cN z o 1 n + cN z o 0 n ≤ n ∧ wN z o n ≤ 136 * n ∧ sumI (fun t => if z (36 + 9 * t + 3) = nI o then 1 else 0) n = nI (cN z o 1 n + cN z o 0 n) ∧ sumI (fun t => if z (36 + 9 * t + 3) = nI o then rW z t else 0) n = nI (wN z o n) ∧ (cN z o 1 n + cN z o 0 n = 0 ↔ wN z o n = 0)
  | 0, _ => ⟨rfl, Nat.le_refl _, Nat.le_refl _, rfl, rfl, ⟨fun _ => rfl, fun _ => rfl⟩⟩
  | n + 1, h => by
    have hm := hi.m
    have hN := hi.n
    obtain ⟨h1, h2, h3, h4, h5, h6⟩ := thV_n hi ho n (by omega)
    obtain ⟨-, -, -, ⟨hp, ep⟩, hu⟩ := hi.tr (t := n) (by omega)
    obtain ⟨w1, w2, w3⟩ := rW_n hi (t := n) (by omega)
    obtain ⟨w, hw⟩ : ∃ w, (rW z n).toNatClampNeg = w := ⟨_, rfl⟩
    rw [hw] at w1 w2 w3
    have ec : ∀ up, cN z o up (n + 1) = cN z o up n + if rPl z n = o ∧ z (36 + 9 * n + 4) = up then 1 else 0 := fun _ => rfl
    have ew : wN z o (n + 1) = wN z o n + if rPl z n = o then w else 0 := by rw [← hw]; rfl
    have d01 : ¬ (0 : Int32) = 1 := by decide
    have m1 : (10000 : Int32) * nI w = nI (10000 * w) := pk_mul 10000 w
    have m2 : (100 : Int32) + nI (10000 * w) = nI (100 + 10000 * w) := nI_add 100 _
    have m3 : (1 : Int32) + nI (10000 * w) = nI (1 + 10000 * w) := nI_add 1 _
    unfold thV at h1 ⊢
    rw [sumI, sumI, sumI, h1, h4, h5, ec, ec, ew]
    by_cases hpo : rPl z n = o
    · have eo : z (36 + 9 * n + 3) = nI o := by rw [ep, hpo]
      rw [if_pos eo, if_pos eo, if_pos eo, if_pos hpo, w1, m1]
      rcases hu with hu | hu
      · rw [hu, if_neg d01, if_neg (fun q => d01 q.2), if_pos ⟨hpo, rfl⟩, m2, nI_add, nI_add, jA_1]
        exact ⟨by congr 1; omega, by omega, by omega, by congr 1, rfl, by omega⟩
      · rw [hu, if_pos rfl, if_pos ⟨hpo, rfl⟩, if_neg (fun q => one_ne q.2), m3, nI_add, nI_add, jA_1]
        exact ⟨by congr 1; omega, by omega, by omega, by congr 1; omega, rfl, by omega⟩
    · have eo : ¬ z (36 + 9 * n + 3) = nI o := fun q => hpo ((jA_neq (by omega) (by omega)).mp (ep.symm.trans q))
      rw [if_neg eo, if_neg eo, if_neg eo, if_neg hpo, if_neg (fun q => hpo q.1), if_neg (fun q => hpo q.1), Int32.add_zero, Int32.add_zero, Int32.add_zero]
      exact ⟨rfl, by omega, by omega, rfl, rfl, h6⟩
/-- what the law's sum of a segment tells -/
theorem thF {z : mR} (hi : rInv z) {o : Nat} (ho : o < 100) : thV z (nI o) (rM z) - thV z (nI o) (rM z) / 100 * 100 = nI (cN z o 1 (rM z)) ∧ thV z (nI o) (rM z) / 100 - thV z (nI o) (rM z) / 100 / 100 * 100 = nI (cN z o 0 (rM z)) ∧ thV z (nI o) (rM z) / 10000 = rWIns z (nI o) ∧ rTrIn z (nI o) = nI (cN z o 1 (rM z) + cN z o 0 (rM z)) ∧ cN z o 1 (rM z) + cN z o 0 (rM z) ≤ 4 := by
  have hm := hi.m
  obtain ⟨h1, h2, h3, h4, h5, h6⟩ := thV_n hi ho (rM z) (Nat.le_refl _)
  have e100 : ∀ a, a < 2 ^ 31 → nI a / (100 : Int32) = nI (a / 100) := fun a h => pk_div (a := a) (d := 100) h (by decide) (by decide)
  refine ⟨?_, ?_, ?_, h4, by omega⟩
  · rw [h1]
    have := pk_rem (a := cN z o 1 (rM z) + 100 * cN z o 0 (rM z) + 10000 * wN z o (rM z)) (d := 100) (by omega) (by decide) (by decide)
    exact this.trans (by congr 1; omega)
  · rw [h1, e100 _ (by omega)]
    have := pk_rem (a := (cN z o 1 (rM z) + 100 * cN z o 0 (rM z) + 10000 * wN z o (rM z)) / 100) (d := 100) (by omega) (by decide) (by decide)
    exact this.trans (by congr 1; omega)
  · have e5 : rWIns z (nI o) = nI (wN z o (rM z)) := h5
    rw [h1, e5]
    have := pk_div (a := cN z o 1 (rM z) + 100 * cN z o 0 (rM z) + 10000 * wN z o (rM z)) (d := 10000) (by omega) (by decide) (by decide)
    exact this.trans (by congr 1; omega)
theorem lMany {a b c : Nat} {G : mM} {D S T z : mR} (h3 : l3 a b c) (hL : LR D S T z) (hi : rInv z) {o : Nat} (ho : o < 100) : xL_many (nI o) a 10 c 40 (lm a b c G D S T) = some (rTrIn z (nI o)) := by
  obtain ⟨h1, h2, -, h4, -⟩ := thF hi ho
  unfold xL_many
  rw [lThere h3 hL hi, bs, bs, h1, h2, h4, nI_add]
theorem sumN_cong {f g : Nat → Nat} : ∀ {n : Nat}, (∀ i, i < n → f i = g i) → sumN f n = sumN g n
  | 0, _ => rfl
  | n + 1, h => by rw [sumN, sumN, sumN_cong (fun i hi => h i (by omega)), h n (by omega)]
theorem sumN_add (f g : Nat → Nat) : ∀ n, sumN (fun i => f i + g i) n = sumN f n + sumN g n
  | 0 => rfl
  | n + 1 => by rw [sumN, sumN, sumN, sumN_add f g n]; omega
theorem sumN_front (f : Nat → Nat) : ∀ n, sumN f (n + 1) = f 0 + sumN (fun i => f (i + 1)) n
  | 0 => by simp [sumN]
  | n + 1 => by rw [sumN, sumN_front f n, sumN]; omega
theorem sumN_le {f : Nat → Nat} {B : Nat} : ∀ {n : Nat}, (∀ i, i < n → f i ≤ B) → sumN f n ≤ n * B
  | 0, _ => by simp [sumN]
  | n + 1, h => by
    have h1 := sumN_le (fun i hi => h i (by omega)) (n := n)
    have h2 := h n (by omega)
    rw [sumN, Nat.succ_mul]
    omega
def bN (z : mR) (lo hi : Nat) (up : Int32) (n : Nat) : Nat := sumN (fun t => if (lo < rPl z t ∧ rPl z t < hi) ∧ z (36 + 9 * t + 4) = up then 1 else 0) n
theorem bN_eq {z : mR} (hi : rInv z) {lo h : Nat} (hlo : lo < 100) (hh : h < 100) (up : Int32) : ∀ n, n ≤ rM z → sumI (dB z lo h up) n = nI (bN z lo h up n) ∧ bN z lo h up n ≤ n
  | 0, _ => ⟨rfl, Nat.le_refl _⟩
  | n + 1, hn => by
    have hN := hi.n
    obtain ⟨h1, h2⟩ := bN_eq hi hlo hh up n (by omega)
    obtain ⟨-, -, -, ⟨hp, ep⟩, hu⟩ := hi.tr (t := n) (by omega)
    have eb : bN z lo h up (n + 1) = bN z lo h up n + if (lo < rPl z n ∧ rPl z n < h) ∧ z (36 + 9 * n + 4) = up then 1 else 0 := rfl
    rw [sumI, h1, eb, dB_in (by omega) hlo hh ep]
    by_cases q1 : lo < rPl z n ∧ rPl z n < h
    · rw [if_pos q1]
      by_cases q2 : z (36 + 9 * n + 4) = up
      · rw [if_pos q2, if_pos ⟨q1, q2⟩, jA_1]; exact ⟨rfl, by omega⟩
      · rw [if_neg q2, if_neg (fun q => q2 q.2), Int32.add_zero]; exact ⟨rfl, by omega⟩
    · rw [if_neg q1, if_neg (fun q => q1 q.1), Int32.add_zero]; exact ⟨rfl, by omega⟩
theorem rBtw_n {z : mR} (hi : rInv z) {lo h : Nat} (hlo : lo < 100) (hh : h < 100) (up : Int32) : rBtw z lo h up = nI (bN z lo h up (rM z)) ∧ bN z lo h up (rM z) ≤ 4 := by
  have hm := hi.m
  obtain ⟨h1, h2⟩ := bN_eq hi hlo hh up (rM z) (Nat.le_refl _)
  exact ⟨h1, by omega⟩
theorem ind_sum (x lo : Nat) (P : Prop) [Decidable P] : ∀ K, sumN (fun i => if x = lo + 1 + i ∧ P then 1 else 0) K = if (lo < x ∧ x < lo + 1 + K) ∧ P then 1 else 0
  | 0 => by rw [if_neg (by omega)]; rfl
  | K + 1 => by
    rw [sumN, ind_sum x lo P K]
    by_cases hP : P
    · by_cases h1 : x = lo + 1 + K
      · rw [if_neg (by omega), if_pos ⟨h1, hP⟩, if_pos ⟨by omega, hP⟩]
      · rw [if_neg (show ¬ (x = lo + 1 + K ∧ P) from fun q => h1 q.1)]
        by_cases h2 : lo < x ∧ x < lo + 1 + K
        · rw [if_pos ⟨h2, hP⟩, if_pos ⟨by omega, hP⟩]
        · rw [if_neg (fun q => h2 q.1), if_neg (fun q => h2 (by omega))]
    · rw [if_neg (fun q => hP q.2), if_neg (fun q => hP q.2), if_neg (fun q => hP q.2)]
theorem bN_cN (z : mR) (lo K : Nat) (up : Int32) : ∀ n, bN z lo (lo + 1 + K) up n = sumN (fun i => cN z (lo + 1 + i) up n) K
  | 0 => by
    have : ∀ K, sumN (fun i => cN z (lo + 1 + i) up 0) K = 0 := fun K => by
      induction K with
      | zero => rfl
      | succ K ih => rw [sumN, ih]; rfl
    rw [this]; rfl
  | n + 1 => by
    have e1 : bN z lo (lo + 1 + K) up (n + 1) = bN z lo (lo + 1 + K) up n + if (lo < rPl z n ∧ rPl z n < lo + 1 + K) ∧ z (36 + 9 * n + 4) = up then 1 else 0 := rfl
    have e2 : (fun i => cN z (lo + 1 + i) up (n + 1)) = fun i => cN z (lo + 1 + i) up n + if rPl z n = lo + 1 + i ∧ z (36 + 9 * n + 4) = up then 1 else 0 := rfl
    rw [e1, e2, sumN_add, bN_cN z lo K up n, ind_sum]

