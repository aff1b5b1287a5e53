/-! THE TEXT: type, clear, fault -/
theorem jA_nlt' {x : Int32} {b : Nat} (hb : b < 2 ^ 31) : (x < nI b ↔ x.toInt < b) ∧ (nI b < x ↔ (b : Int) < x.toInt) ∧ (x ≤ nI b ↔ x.toInt ≤ b) ∧ (nI b ≤ x ↔ (b : Int) ≤ x.toInt) := by
  refine ⟨?_, ?_, ?_, ?_⟩
  · rw [jA_lt, jA_n hb]
  · rw [jA_lt, jA_n hb]
  · rw [jA_le, jA_n hb]
  · rw [jA_le, jA_n hb]
theorem vp_char {x : Int32} (h : 32 ≤ x.toInt ∧ x.toInt ≤ 126) : vp_nar .char ((x.toUInt32 % 65536).toInt32) = x := by
  obtain ⟨j, hj, rfl, -⟩ := jA_of (x := x) (n := 127) (by omega) (by omega)
  have : ∀ j : Fin 127, vp_nar .char (((nI j.1).toUInt32 % 65536).toInt32) = nI j.1 := by decide
  exact this ⟨j, hj⟩
theorem nI_ne {p : Nat} (h : p ≠ 0) (hp : p < 2 ^ 31) : ¬ nI p = 0 := fun q => h ((jA_neq (b := 0) hp (by decide)).mp q)
/-- what changes nothing but the text asks no further call of the bound -/
def B2t (k : Nat) (A B : mM) (a b : Option (Int32 × mM)) : Prop := ∃ r A' B', a = some (r, A') ∧ b = some (r, B') ∧ Rel k A' B' ∧ B' 247 = B 247 ∧ B' 246 2 = B 246 2 ∧ B' 249 = B 249
def B1t (k : Nat) (A B : mM) (a : Option Int32) (b : Option (Int32 × mM)) : Prop := ∃ r B', a = some r ∧ b = some (r, B') ∧ Rel k A B' ∧ B' 247 = B 247 ∧ B' 246 2 = B 246 2 ∧ B' 249 = B 249
def B2 (k : Nat) (A B : mM) (a b : Option (Int32 × mM)) : Prop := ∃ r A' B', a = some (r, A') ∧ b = some (r, B') ∧ Rel (k + 1) A' B'
/-- a class's method that changes nothing -/
def B1 (k : Nat) (A B : mM) (a : Option Int32) (b : Option (Int32 × mM)) : Prop := ∃ r B', a = some r ∧ b = some (r, B') ∧ Rel (k + 1) A B'
theorem rel_type {k : Nat} {A B : mM} (h : Rel k A B) (x : Int32) : B2t k A B (x5_type x A) (x6_type x B) := by
  have hT := h.2.2.1
  obtain ⟨n, hn, ha, hb, hc⟩ := hT
  have e32 := @jA_nlt' x 32 (by decide)
  have e126 := @jA_nlt' x 126 (by decide)
  unfold x5_type x6_type x6_within
  by_cases h1 : x < (32 : Int32)
  · rw [if_pos h1, if_pos h1, bs, if_pos rfl]
    exact ⟨_, _, _, rfl, rfl, h, rfl, rfl, rfl⟩
  · rw [if_neg h1, if_neg h1]
    by_cases h2 : x ≤ (126 : Int32)
    · have h2' := e126.2.2.1.mp h2
      have h1' : ¬ x.toInt < 32 := fun q => h1 (e32.1.mpr q)
      rw [if_pos h2, if_neg (show ¬ (126 : Int32) < x from fun q => by have := e126.2.1.mp q; omega), bs, if_neg one_ne, hb]
      unfold x1_isFull
      rw [ha]
      by_cases h3 : n = 40
      · subst h3
        rw [if_neg (show ¬ nI 40 < (40 : Int32) by decide), bs, if_neg one_ne, if_pos (show nI 40 = (40 : Int32) from rfl)]
        exact ⟨_, _, _, rfl, rfl, h, rfl, rfl, rfl⟩
      · rw [if_pos (show nI n < (40 : Int32) from (jA_nlt (b := 40) (by omega) (by decide)).mpr (by omega)), bs, if_pos rfl, if_neg (show ¬ nI n = (40 : Int32) from fun q => by have := (jA_neq (b := 40) (by omega) (by decide)).mp q; omega)]
        unfold x1_append
        rw [ha, if_neg (nI_pos (by omega)), if_neg (show ¬ (40 : Int32) ≤ nI n from fun q => by have := (jA_nle (a := 40) (by decide) (by omega)).mp q; omega), mCk_t (jA_in (by omega) (by decide)), mCk_t (jA_in (by omega) (by decide)), mNm_e, mNm_e, mNm_e, mNm_e, bs, vp_char (by omega), jA_clamp (by omega)]
        unfold x1_length
        rw [bs, up2_same, up2_same, up2_ne (Or.inl (by decide)), up2_ne (Or.inl (by decide)), ha, hb, jA_1]
        refine ⟨_, _, _, rfl, rfl, h.text (fun d d1 d2 => ?_) (fun d d1 d2 => ?_) ?_ ?_ ?_, by rw [up2_other (by decide), up2_other (by decide)], by rw [up2_ne (Or.inr (by decide)), up2_other (by decide)], by rw [up2_other (by decide), up2_other (by decide)]⟩
        · rw [up2_other d1, up2_other d2]
        · rw [up2_other d1, up2_other d2]
        · rw [up2_ne (Or.inr (by decide)), up2_other (by decide)]
        · rw [up2_ne (Or.inr (by decide)), up2_other (by decide)]
        · refine ⟨n + 1, by omega, up2_same _ _ _ _, up2_same _ _ _ _, fun i hi => ?_⟩
          rw [up2_other (show (242 : Nat) ≠ 241 by decide), up2_other (show (251 : Nat) ≠ 246 by decide)]
          by_cases e : i = n
          · subst e
            rw [up2_same, up2_same]
            exact ⟨rfl, by omega⟩
          · rw [up2_ne (Or.inr e), up2_ne (Or.inr e)]
            exact hc i (by omega)
    · rw [if_neg h2, if_pos (show (126 : Int32) < x from e126.2.1.mpr (by have : ¬ x.toInt ≤ 126 := fun q => h2 (e126.2.2.1.mpr q); omega)), bs, if_pos rfl]
      exact ⟨_, _, _, rfl, rfl, h, rfl, rfl, rfl⟩
theorem Rel.wipe {k : Nat} {A B : mM} (h : Rel k A B) : Rel k (up2 A 241 1 0) (up2 B 246 6 0) := by
  refine h.text (fun d d1 d2 => up2_other d1) (fun d d1 d2 => up2_other d1) (up2_ne (Or.inr (by decide))) (up2_ne (Or.inr (by decide))) ⟨0, by omega, up2_same _ _ _ _, up2_same _ _ _ _, fun i hi => absurd hi (by omega)⟩
theorem rel_clear {k : Nat} {A B : mM} (h : Rel k A B) : B2t k A B (x5_clear A) (x6_clear B) := by
  obtain ⟨n, hn, ha, hb, hc⟩ := h.2.2.1
  unfold x5_clear x6_clear x1_length x1_wipe
  rw [bs, ha, hb, mNm_e, bs, mNm_e, mNm_e]
  exact ⟨_, _, _, rfl, rfl, h.wipe, up2_other (by decide), up2_ne (Or.inr (by decide)), up2_other (by decide)⟩
/-- one sign of a text that is a track -/
def tk (p b : Nat) (c : Int32) : Option (Nat × Nat) := if p = 0 then (if c < 48 then none else if 57 < c then none else some (1, b + 1)) else if c = 44 then (if 12 ≤ b then none else some (0, b)) else if c = 112 then (if p = 1 then some (2, b) else none) else none
def trk (cd : Nat → Int32) : Nat → Option (Nat × Nat)
  | 0 => some (0, 0)
  | i + 1 => (trk cd i).bind fun q => tk q.1 q.2 (cd i)
def tOk (p b : Nat) : Prop := (p = 0 ∨ p = 1 ∨ p = 2) ∧ (p = 0 → b < 12) ∧ (p ≠ 0 → 1 ≤ b ∧ b ≤ 12)
theorem tk_ok {p b p' b' : Nat} {c : Int32} (h : tOk p b) (hk : tk p b c = some (p', b')) : tOk p' b' := by
  unfold tk at hk
  unfold tOk at h ⊢
  split at hk
  · split at hk
    · cases hk
    · split at hk
      · cases hk
      · cases hk; omega
  · split at hk
    · split at hk
      · cases hk
      · cases hk; omega
    · split at hk
      · split at hk
        · cases hk; omega
        · cases hk
      · cases hk
def fr89 (B B' : mM) : Prop := (∀ e, e ≠ 246 → B' e = B e) ∧ ∀ j, j ≠ 8 → j ≠ 9 → B' 246 j = B 246 j
theorem fr89.rf {B : mM} : fr89 B B := ⟨fun _ _ => rfl, fun _ _ _ => rfl⟩
theorem fr89.tr {B B' B'' : mM} (h : fr89 B B') (h2 : fr89 B' B'') : fr89 B B'' := ⟨fun e he => (h2.1 e he).trans (h.1 e he), fun j a b => (h2.2 j a b).trans (h.2 j a b)⟩
theorem fr89.u8 (B : mM) (v : Int32) : fr89 B (up2 B 246 8 v) := ⟨fun e he => up2_other he, fun j a b => up2_ne (Or.inr a)⟩
theorem fr89.u9 (B : mM) (v : Int32) : fr89 B (up2 B 246 9 v) := ⟨fun e he => up2_other he, fun j a b => up2_ne (Or.inr b)⟩
theorem Rel.f89 {k : Nat} {A B B' : mM} (h : Rel k A B) (hf : fr89 B B') : Rel k A B' := by
  refine h.text (fun _ _ _ => rfl) (fun d d1 _ => hf.1 d d1) (hf.2 2 (by decide) (by decide)) (hf.2 4 (by decide) (by decide)) ?_
  obtain ⟨n, hn, ha, hb, hc⟩ := h.2.2.1
  exact ⟨n, hn, ha, (hf.2 6 (by decide) (by decide)).trans hb, fun i hi => by rw [hf.1 251 (by decide)]; exact hc i hi⟩
theorem eTakes {B : mM} {p b : Nat} (c : Int32) (hp : B 246 9 = nI p) (hb : B 246 8 = nI b) (h : tOk p b) : ∃ r B', x6_takes c B = some (r, B') ∧ fr89 B B' ∧ (tk p b c = none → r = 0) ∧ ∀ p' b', tk p b c = some (p', b') → r = 1 ∧ B' 246 9 = nI p' ∧ B' 246 8 = nI b' := by
  unfold x6_takes tk x6_within
  rw [hp, hb]
  obtain ⟨h0, h1, h2⟩ := h
  by_cases e0 : p = 0
  · subst e0
    rw [if_pos rfl, if_pos rfl]
    by_cases e1 : c < (48 : Int32)
    · rw [if_pos e1, if_pos e1, bs, if_pos rfl, mNm_e, if_pos rfl, mNm_e, mCk_t (Or.inl rfl)]
      exact ⟨_, _, rfl, (fr89.u8 _ _).tr (fr89.u9 _ _), fun _ => rfl, fun p' b' q => by cases q⟩
    · rw [if_neg e1, if_neg e1]
      by_cases e2 : (57 : Int32) < c
      · rw [if_pos e2, if_pos e2, bs, if_pos rfl, mNm_e, if_pos rfl, mNm_e, mCk_t (Or.inl rfl)]
        exact ⟨_, _, rfl, (fr89.u8 _ _).tr (fr89.u9 _ _), fun _ => rfl, fun p' b' q => by cases q⟩
      · rw [if_neg e2, if_neg e2, bs, if_neg one_ne, mNm_e, if_neg one_ne, mNm_e, mCk_t (Or.inr rfl)]
        refine ⟨_, _, rfl, (fr89.u8 _ _).tr (fr89.u9 _ _), fun q => (by cases q), fun p' b' q => ?_⟩
        cases q
        exact ⟨rfl, up2_same _ _ _ _, by rw [up2_ne (Or.inr (by decide)), up2_same, jA_1]⟩
  · rw [if_neg (show ¬ nI p = 0 from nI_ne (by omega) (by omega)), if_neg e0]
    have hnp : ∀ a b : Int32, (a = 112 → a = 44 → False) := fun a b q r => by rw [q] at r; revert r; decide
    by_cases e1 : c = (44 : Int32)
    · rw [if_neg (show ¬ c = (112 : Int32) from fun q => hnp c c q e1), if_pos e1, if_pos e1]
      by_cases e2 : 12 ≤ b
      · rw [if_pos (show (12 : Int32) ≤ nI b from (jA_nle (a := 12) (by decide) (by omega)).mpr e2), if_pos rfl, if_pos e2, mNm_e]
        exact ⟨_, _, rfl, fr89.u9 _ _, fun _ => rfl, fun p' b' q => by cases q⟩
      · rw [if_neg (show ¬ (12 : Int32) ≤ nI b from fun q => e2 ((jA_nle (a := 12) (by decide) (by omega)).mp q)), if_neg one_ne, if_neg e2, mNm_e]
        refine ⟨_, _, rfl, fr89.u9 _ _, fun q => (by cases q), fun p' b' q => ?_⟩
        cases q
        exact ⟨rfl, up2_same _ _ _ _, by rw [up2_ne (Or.inr (by decide))]; exact hb⟩
    · rw [if_neg e1, if_neg e1]
      by_cases e2 : c = (112 : Int32)
      · rw [if_pos e2, if_pos e2]
        by_cases e3 : p = 1
        · subst e3
          rw [if_pos (show nI 1 = (1 : Int32) from rfl), if_pos rfl, mNm_e]
          refine ⟨_, _, rfl, fr89.u9 _ _, fun q => (by cases q), fun p' b' q => ?_⟩
          cases q
          exact ⟨rfl, up2_same _ _ _ _, by rw [up2_ne (Or.inr (by decide))]; exact hb⟩
        · rw [if_neg (show ¬ nI p = (1 : Int32) from fun q => e3 ((jA_neq (b := 1) (by omega) (by decide)).mp q)), if_neg e3, if_pos rfl, mNm_e]
          exact ⟨_, _, rfl, fr89.u9 _ _, fun _ => rfl, fun p' b' q => by cases q⟩
      · rw [if_neg e2, if_neg e2, if_pos rfl, mNm_e]
        exact ⟨_, _, rfl, fr89.u9 _ _, fun _ => rfl, fun p' b' q => by cases q⟩
theorem ffB {A : mM} {cd : Nat → Int32} {len : Nat} (hlen : len ≤ 40) (hA : A 241 1 = nI len) (hcd : ∀ i, i < len → A 242 i = cd i) : ∀ (k i n m p b : Nat) (B : mM), i + k = len → k < n → k < m → trk cd i = some (p, b) → tOk p b → B 246 6 = nI len → B 246 9 = nI p → B 246 8 = nI b → (∀ i, i < len → B 251 i = cd i) →
    ∃ q B' j, x1_firstFault_L6 n (nI p) (nI b) (nI i) A = some q ∧ x6_faultNow_L12 m (nI i) B = some (nI j, B') ∧ fr89 B B' ∧ ((∃ p' b', trk cd len = some (p', b') ∧ tOk p' b' ∧ q = (0, nI p', nI b', 0) ∧ j = len ∧ B' 246 9 = nI p' ∧ B' 246 8 = nI b') ∨ (j < len ∧ (q = (1, 0, 0, nI j) ∨ q = (2, 0, 0, nI j)))) := by
  intro k
  induction k with
  | zero =>
    intro i n m p b B hi hn hm ht hok h6 h9 h8 hB
    obtain ⟨n, rfl⟩ : ∃ q, n = q + 1 := ⟨n - 1, by omega⟩
    obtain ⟨m, rfl⟩ : ∃ q, m = q + 1 := ⟨m - 1, by omega⟩
    have e : i = len := by omega
    subst e
    rw [x1_firstFault_L6, x6_faultNow_L12, hA, h6, if_pos ((jA_nle (by omega) (by omega)).mpr (Nat.le_refl _)), if_pos ((jA_nle (by omega) (by omega)).mpr (Nat.le_refl _))]
    exact ⟨_, _, _, rfl, rfl, fr89.rf, Or.inl ⟨p, b, ht, hok, rfl, rfl, h9, h8⟩⟩
  | succ k ih =>
    intro i n m p b B hi hn hm ht hok h6 h9 h8 hB
    obtain ⟨n, rfl⟩ : ∃ q, n = q + 1 := ⟨n - 1, by omega⟩
    obtain ⟨m, rfl⟩ : ∃ q, m = q + 1 := ⟨m - 1, by omega⟩
    obtain ⟨r, B1, b1, b2, b3, b4⟩ := eTakes (cd i) h9 h8 hok
    have hcode : x1_codeAt (nI i) A = some (cd i) := by
      unfold x1_codeAt
      rw [if_neg (nI_pos (by omega)), if_neg (show ¬ (40 : Int32) ≤ nI i from fun q => by have := (jA_nle (a := 40) (by decide) (by omega)).mp q; omega), mCk_t (jA_in (by omega) (by decide)), jA_clamp (by omega), hcd i (by omega)]
    have hx6 : x6_faultNow_L12 (m + 1) (nI i) B = if r = 0 then some (nI i, B1) else x6_faultNow_L12 m (nI (i + 1)) B1 := by
      rw [x6_faultNow_L12, h6, if_neg (show ¬ nI len ≤ nI i from fun q => by have := (jA_nle (by omega) (by omega)).mp q; omega), mCk_t (jA_in (by omega) (by decide)), jA_clamp (by omega), hB i (by omega), b1, bs, mNm_e, jA_1]
    have hx1 : x1_firstFault_L6 (n + 1) (nI p) (nI b) (nI i) A = match tk p b (cd i) with
      | none => some (if p = 0 then 1 else 2, 0, 0, nI i)
      | some (p', b') => x1_firstFault_L6 n (nI p') (nI b') (nI (i + 1)) A := by
      rw [x1_firstFault_L6, hA, if_neg (show ¬ nI len ≤ nI i from fun q => by have := (jA_nle (by omega) (by omega)).mp q; omega), hcode, bs]
      unfold tk x1_isDigit
      by_cases e0 : p = 0
      · subst e0
        rw [if_pos (show nI 0 = 0 from rfl), if_pos rfl, if_pos rfl]
        by_cases e1 : cd i < (48 : Int32)
        · rw [if_pos e1, if_pos e1, bs, if_pos rfl]
        · rw [if_neg e1, if_neg e1]
          by_cases e2 : (57 : Int32) < cd i
          · rw [if_pos e2, if_pos e2, bs, if_pos rfl]
          · rw [if_neg e2, if_neg e2, bs, if_neg one_ne, mNm_e, mNm_e, jA_1, jA_1]
            rfl
      · obtain ⟨h0, h1, h2⟩ := hok
        rw [if_neg (show ¬ nI p = 0 from nI_ne (by omega) (by omega)), if_neg e0, if_neg e0]
        by_cases e1 : cd i = (44 : Int32)
        · rw [if_pos e1, if_pos e1]
          by_cases e2 : 12 ≤ b
          · rw [if_pos (show (12 : Int32) ≤ nI b from (jA_nle (a := 12) (by decide) (by omega)).mpr e2), if_pos e2, if_neg (show ¬ cd i = (112 : Int32) from fun q => by rw [e1] at q; revert q; decide)]
          · rw [if_neg (show ¬ (12 : Int32) ≤ nI b from fun q => e2 ((jA_nle (a := 12) (by decide) (by omega)).mp q)), if_neg e2, mNm_e, jA_1]
            rfl
        · rw [if_neg e1, if_neg e1]
          by_cases e2 : cd i = (112 : Int32)
          · rw [if_pos e2, if_pos e2]
            by_cases e3 : p = 1
            · subst e3
              rw [if_pos (show nI 1 = (1 : Int32) from rfl), if_pos rfl, mNm_e, jA_1]
              rfl
            · rw [if_neg (show ¬ nI p = (1 : Int32) from fun q => e3 ((jA_neq (b := 1) (by omega) (by decide)).mp q)), if_neg e3]
          · rw [if_neg e2, if_neg e2]
    rw [hx6, hx1]
    cases hk : tk p b (cd i) with
    | none =>
      rw [if_pos (b3 hk)]
      refine ⟨_, _, _, rfl, rfl, b2, Or.inr ⟨by omega, ?_⟩⟩
      by_cases e0 : p = 0
      · rw [if_pos e0]; exact Or.inl rfl
      · rw [if_neg e0]; exact Or.inr rfl
    | some pb =>
      obtain ⟨p', b'⟩ := pb
      obtain ⟨c1, c2, c3⟩ := b4 p' b' hk
      rw [if_neg (show ¬ r = 0 by rw [c1]; exact one_ne)]
      obtain ⟨q, B', j, d1, d2, d3, d4⟩ := ih (i + 1) n m p' b' B1 (by omega) (by omega) (by omega) (by rw [trk, ht]; exact hk) (tk_ok hok hk) ((b2.2 6 (by decide) (by decide)).trans h6) c2 c3 (fun i hi => by rw [b2.1 251 (by decide)]; exact hB i hi)
      exact ⟨q, B', j, d1, d2, b2.tr d3, d4⟩
/-- what both find at fault -/
theorem faultBoth {k : Nat} {A B : mM} (h : Rel k A B) : ∃ r B', x1_firstFault A = some r ∧ x6_faultNow B = some (r, B') ∧ fr89 B B' ∧ (r = -1 → ∃ len p b, len ≤ 40 ∧ A 241 1 = nI len ∧ trk (B 251) len = some (p, b) ∧ p ≠ 0 ∧ 3 ≤ b ∧ b ≤ 12) := by
  obtain ⟨n, hn, ha, hb, hc⟩ := h.2.2.1
  obtain ⟨q, B', j, d1, d2, d3, d4⟩ := ffB (cd := B 251) hn ha (fun i hi => (hc i hi).1) n 0 mFu mFu 0 0 (up2 (up2 B 246 8 0) 246 9 0) (by omega) (by unfold mFu; omega) (by unfold mFu; omega) rfl ⟨Or.inl rfl, fun _ => by decide, fun q => absurd rfl q⟩ (by rw [up2_ne (Or.inr (by decide)), up2_ne (Or.inr (by decide))]; exact hb) (up2_same _ _ _ _) (by rw [up2_ne (Or.inr (by decide)), up2_same]; rfl) (fun i _ => rfl)
  have d1' : x1_firstFault_L6 mFu 0 0 0 A = some q := d1
  have d2' : x6_faultNow_L12 mFu 0 (up2 (up2 B 246 8 0) 246 9 0) = some (nI j, B') := d2
  have hf : fr89 B B' := ((fr89.u8 _ _).tr (fr89.u9 _ _)).tr d3
  have h6 : B' 246 6 = nI n := (hf.2 6 (by decide) (by decide)).trans hb
  unfold x1_firstFault x6_faultNow
  rw [d1', bs, mNm_e, mNm_e, d2', bs]
  simp only [h6]
  rcases d4 with ⟨p', b', c1, c2, rfl, rfl, c5, c6⟩ | ⟨c1, rfl | rfl⟩
  · rw [if_pos rfl, if_neg (show ¬ nI j < nI j from fun q => by have := (jA_nlt (by omega) (by omega)).mp q; omega), c5, c6, ha]
    obtain ⟨h0, h1, h2⟩ := c2
    have hne : ∀ v : Nat, v ≤ 40 → nI v = -1 → False := fun v hv q => by rw [jA_eq, jA_n (by omega)] at q; have : (-1 : Int32).toInt = -1 := rfl; omega
    by_cases e0 : p' = 0
    · subst e0
      rw [if_pos (show nI 0 = 0 from rfl), if_pos (show nI 0 = 0 from rfl)]
      exact ⟨_, _, rfl, rfl, hf, fun q => (hne j hn q).elim⟩
    · rw [if_neg (show ¬ nI p' = 0 from nI_ne (by omega) (by omega)), if_neg (show ¬ nI p' = 0 from nI_ne (by omega) (by omega))]
      by_cases e1 : 3 ≤ b'
      · rw [if_pos (show (3 : Int32) ≤ nI b' from (jA_nle (a := 3) (by decide) (by omega)).mpr e1), if_pos (show (3 : Int32) ≤ nI b' from (jA_nle (a := 3) (by decide) (by omega)).mpr e1)]
        exact ⟨_, _, rfl, rfl, hf, fun _ => ⟨j, p', b', hn, rfl, c1, e0, e1, (h2 e0).2⟩⟩
      · rw [if_neg (show ¬ (3 : Int32) ≤ nI b' from fun q => e1 ((jA_nle (a := 3) (by decide) (by omega)).mp q)), if_neg (show ¬ (3 : Int32) ≤ nI b' from fun q => e1 ((jA_nle (a := 3) (by decide) (by omega)).mp q))]
        exact ⟨_, _, rfl, rfl, hf, fun q => (hne j hn q).elim⟩
  · rw [if_neg (show ¬ (1 : Nat) = 0 by decide), if_pos rfl, if_pos ((jA_nlt (by omega) (by omega)).mpr c1)]
    exact ⟨_, _, rfl, rfl, hf, fun q => by rw [jA_eq, jA_n (by omega)] at q; have : (-1 : Int32).toInt = -1 := rfl; omega⟩
  · rw [if_neg (show ¬ (2 : Nat) = 0 by decide), if_neg (show ¬ (2 : Nat) = 1 by decide), if_pos ((jA_nlt (by omega) (by omega)).mpr c1)]
    exact ⟨_, _, rfl, rfl, hf, fun q => by rw [jA_eq, jA_n (by omega)] at q; have : (-1 : Int32).toInt = -1 := rfl; omega⟩
theorem rel_fault {k : Nat} {A B : mM} (h : Rel k A B) : B1t k A B (x5_fault A) (x6_fault B) := by
  obtain ⟨r, B', h1, h2, h3, -⟩ := faultBoth h
  unfold x5_fault x6_fault
  rw [h1, h2, bs, bs]
  exact ⟨_, _, rfl, rfl, h.f89 h3, h3.1 247 (by decide), h3.2 2 (by decide) (by decide), h3.1 249 (by decide)⟩
