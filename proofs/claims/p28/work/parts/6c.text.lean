/-! THE TEXT OF A TRACK, sign by sign -/
def lst (w : mR) (c : Int32) : mR := if 48 ≤ c.toInt ∧ c.toInt ≤ 57 then upd (upd (upd (upd w (3 * rN w) (c - 48)) (3 * rN w + 1) (if rN w = 0 then 1 else 0)) (3 * rN w + 2) 0) 72 (nI (rN w + 1)) else if c = 112 then upd w (3 * (rN w - 1) + 1) 1 else w
def rowT (w0 : mR) (cd : Nat → Int32) : Nat → mR
  | 0 => w0
  | i + 1 => lst (rowT w0 cd i) (cd i)
theorem rowT_cong {w0 : mR} {cd cd' : Nat → Int32} : ∀ {n : Nat}, (∀ i, i < n → cd' i = cd i) → rowT w0 cd' n = rowT w0 cd n
  | 0, _ => rfl
  | n + 1, h => by rw [rowT, rowT, rowT_cong (fun i hi => h i (by omega)), h n (by omega)]
theorem trk_cong {cd cd' : Nat → Int32} : ∀ {n : Nat}, (∀ i, i < n → cd' i = cd i) → trk cd' n = trk cd n
  | 0, _ => rfl
  | n + 1, h => by rw [trk, trk, trk_cong (fun i hi => h i (by omega)), h n (by omega)]
/-- the row that the text has laid so far holds what S holds of b segments -/
def RT (w0 w S : mR) (p b : Nat) : Prop := w 72 = nI b ∧ (∀ e, e < b → w (3 * e) = S (3 * e) ∧ w (3 * e + 2) = 0 ∧ (w (3 * e + 1) = 0 ∨ w (3 * e + 1) = 1) ∧ (w (3 * e + 1) = 1 ↔ e = 0 ∨ (S (3 * e + 1) = 1 ∧ (e + 1 < b ∨ p = 2 ∨ p = 0)))) ∧ ∀ j, 36 ≤ j → j ≠ 72 → w j = w0 j
def Kp (B B0 : mM) : Prop := B 247 = B0 247 ∧ B 246 2 = B0 246 2 ∧ B 249 = B0 249
def TXT (k : Nat) (M B B0 : mM) (w0 S : mR) (len p b : Nat) : Prop := Rel k M B ∧ Kp B B0 ∧ B 246 6 = nI len ∧ trk (B 251) len = some (p, b) ∧ RT w0 (rowT w0 (B 251) len) S p b
/-! the class's fault, out of the text's own reading -/
theorem ff_step {A : mM} {cd : Nat → Int32} {len : Nat} (hlen : len ≤ 40) (hA : A 241 1 = nI len) (hcd : ∀ i, i < len → A 242 i = cd i) {i n p b : Nat} (hi : i < len) (hok : tOk p b) : x1_firstFault_L6 (n + 1) (nI p) (nI b) (nI i) A = match tk p b (cd i) with
      | none => some (if p = 0 then 1 else 2, 0, 0, nI i)
      | some (p', b') => x1_firstFault_L6 n (nI p') (nI b') (nI (i + 1)) A := by
  have hcode : x1_codeAt (nI i) A = some (cd i) := by
    unfold x1_codeAt
    rw [if_neg (nI_pos (by omega)), if_neg (show ¬ (40 : Int32) ≤ nI i from fun q => by have := (jA_nle (a := 40) (by decide) (by omega)).mp q; omega), mCk_t (jA_in (by omega) (by decide)), jA_clamp (by omega), hcd i (by omega)]
  rw [x1_firstFault_L6, hA, if_neg (show ¬ nI len ≤ nI i from fun q => by have := (jA_nle (by omega) (by omega)).mp q; omega), hcode, bs]
  unfold tk x1_isDigit
  by_cases e0 : p = 0
  · subst e0
    rw [if_pos (show nI 0 = 0 from rfl), if_pos rfl, if_pos rfl]
    by_cases e1 : cd i < (48 : Int32)
    · rw [if_pos e1, if_pos e1, bs, if_pos rfl]
    · rw [if_neg e1, if_neg e1]
      by_cases e2 : (57 : Int32) < cd i
      · rw [if_pos e2, if_pos e2, bs, if_pos rfl]
      · rw [if_neg e2, if_neg e2, bs, if_neg one_ne, mNm_e, mNm_e, jA_1, jA_1]
        rfl
  · obtain ⟨h0, h1, h2⟩ := hok
    rw [if_neg (show ¬ nI p = 0 from nI_ne (by omega) (by omega)), if_neg e0, if_neg e0]
    by_cases e1 : cd i = (44 : Int32)
    · rw [if_pos e1, if_pos e1]
      by_cases e2 : 12 ≤ b
      · rw [if_pos (show (12 : Int32) ≤ nI b from (jA_nle (a := 12) (by decide) (by omega)).mpr e2), if_pos e2, if_neg (show ¬ cd i = (112 : Int32) from fun q => by rw [e1] at q; revert q; decide)]
      · rw [if_neg (show ¬ (12 : Int32) ≤ nI b from fun q => e2 ((jA_nle (a := 12) (by decide) (by omega)).mp q)), if_neg e2, mNm_e, jA_1]
        rfl
    · rw [if_neg e1, if_neg e1]
      by_cases e2 : cd i = (112 : Int32)
      · rw [if_pos e2, if_pos e2]
        by_cases e3 : p = 1
        · subst e3
          rw [if_pos (show nI 1 = (1 : Int32) from rfl), if_pos rfl, mNm_e, jA_1]
          rfl
        · rw [if_neg (show ¬ nI p = (1 : Int32) from fun q => e3 ((jA_neq (b := 1) (by omega) (by decide)).mp q)), if_neg e3]
      · rw [if_neg e2, if_neg e2]
theorem ff_run {A : mM} {cd : Nat → Int32} {len : Nat} (hlen : len ≤ 40) (hA : A 241 1 = nI len) (hcd : ∀ i, i < len → A 242 i = cd i) : ∀ (i p b : Nat), i ≤ len → trk cd i = some (p, b) → x1_firstFault_L6 mFu 0 0 0 A = x1_firstFault_L6 (mFu - i) (nI p) (nI b) (nI i) A
  | 0, p, b, _, h => by
    have h : some ((0 : Nat), (0 : Nat)) = some (p, b) := h
    cases h
    rfl
  | i + 1, p, b, hi, h => by
    rw [trk] at h
    cases hq : trk cd i with
    | none => rw [hq] at h; cases h
    | some q =>
      obtain ⟨p0, b0⟩ := q
      rw [hq] at h
      have h : tk p0 b0 (cd i) = some (p, b) := h
      have hm : mFu - i = mFu - (i + 1) + 1 := by unfold mFu; omega
      rw [ff_run hlen hA hcd i p0 b0 (by omega) hq, hm, ff_step hlen hA hcd (by omega) (trk_ok i p0 b0 hq), h]
theorem ff_len {k : Nat} {A B : mM} (h : Rel k A B) {len : Nat} (hb : B 246 6 = nI len) (hl : len ≤ 40) : A 241 1 = nI len ∧ ∀ i, i < len → A 242 i = B 251 i := by
  obtain ⟨n, hn, ha, hb', hc⟩ := h.2.2.1
  have e : n = len := (jA_neq (by omega) (by omega)).mp (hb'.symm.trans hb)
  subst e
  exact ⟨ha, fun i hi => (hc i hi).1⟩
/-- the whole text reads: the fault is its end, or none -/
theorem oFault {k : Nat} {A B : mM} (h : Rel k A B) {len p b : Nat} (hb : B 246 6 = nI len) (hl : len ≤ 40) (ht : trk (B 251) len = some (p, b)) : x5_fault A = some (if p = 0 ∨ b < 3 then nI len else -1) := by
  obtain ⟨ha, hc⟩ := ff_len h hb hl
  obtain ⟨t0, t1, t2⟩ := trk_ok len p b ht
  have hm : mFu - len = mFu - len - 1 + 1 := by unfold mFu; omega
  unfold x5_fault x1_firstFault
  rw [ff_run hl ha hc len p b (Nat.le_refl _) ht, hm, x1_firstFault_L6, ha, if_pos ((jA_nle (by omega) (by omega)).mpr (Nat.le_refl _)), bs]
  dsimp only
  rw [if_pos rfl]
  by_cases e0 : p = 0
  · rw [if_pos (show nI p = 0 by rw [e0]; rfl), if_pos (Or.inl e0), bs]
  · have hb12 := t2 e0
    rw [if_neg (show ¬ nI p = 0 from nI_ne e0 (by omega))]
    by_cases e1 : b < 3
    · rw [if_neg (show ¬ (3 : Int32) ≤ nI b from fun q => by have := (jA_nle (a := 3) (by decide) (by omega)).mp q; omega), if_pos (Or.inr e1), bs]
    · rw [if_pos (show (3 : Int32) ≤ nI b from (jA_nle (a := 3) (by decide) (by omega)).mpr (by omega)), if_neg (by omega), bs]
/-- the fault at the last sign -/
theorem oFaultAt {k : Nat} {A B : mM} (h : Rel k A B) {len p b : Nat} (hb : B 246 6 = nI (len + 1)) (hl : len + 1 ≤ 40) (ht : trk (B 251) len = some (p, b)) (hn : tk p b (B 251 len) = none) : x5_fault A = some (nI len) := by
  obtain ⟨ha, hc⟩ := ff_len h hb hl
  have hok := trk_ok len p b ht
  have hm : mFu - len = mFu - len - 1 + 1 := by unfold mFu; omega
  unfold x5_fault x1_firstFault
  rw [ff_run hl ha hc len p b (by omega) ht, hm, ff_step hl ha hc (by omega) hok, hn]
  dsimp only
  rw [bs]
  dsimp only
  by_cases e0 : p = 0
  · rw [if_pos e0, if_neg (by decide), if_pos rfl, bs]
  · rw [if_neg e0, if_neg (by decide), if_neg (by decide), bs]
/-! type and clear -/
theorem oType {k : Nat} {A B : mM} (h : Rel k A B) {len : Nat} (hb : B 246 6 = nI len) (hl : len < 40) {c : Int32} (hc : 32 ≤ c.toInt ∧ c.toInt ≤ 126) : ∃ A' B', x5_type c A = some (nI (len + 1), A') ∧ Rel k A' B' ∧ Kp B' B ∧ (∀ e, 246 ≤ e → A' e = A e) ∧ B' 246 6 = nI (len + 1) ∧ B' 251 = upd (B 251) len c := by
  obtain ⟨r, A', B', e1, e2, hR, -⟩ := rel_type h c
  unfold x6_type at e2
  rw [wn c 32 126 (l := 32) (h := 126) rfl rfl B, bs, ite10, if_pos hc, hb, if_neg (show ¬ nI len = (40 : Int32) from fun q => by have := (jA_neq (b := 40) (by omega) (by decide)).mp q; omega), mCk_t (jA_in hl (by decide)), mNm_e, mNm_e, jA_clamp (by omega), up2_other (show (246 : Nat) ≠ 251 by decide), hb, jA_1, up2_same] at e2
  cases e2
  refine ⟨A', _, e1, hR, ⟨?_, ?_, ?_⟩, fun e he => ?_, up2_same _ _ _ _, ?_⟩
  · rw [up2_other (by decide), up2_other (by decide)]
  · rw [up2_ne (Or.inr (by decide)), up2_other (by decide)]
  · rw [up2_other (by decide), up2_other (by decide)]
  · rw [hR.2.2.2.2.2 e he, up2_other (by omega), up2_other (by omega), h.2.2.2.2.2 e he]
  · rw [up2_other (by decide), up2_row]
theorem oClear {k : Nat} {A B : mM} (h : Rel k A B) : ∃ A' B', x5_clear A = some (B 246 6, A') ∧ Rel k A' B' ∧ Kp B' B ∧ (∀ e, 246 ≤ e → A' e = A e) ∧ B' 246 6 = nI 0 := by
  obtain ⟨r, A', B', e1, e2, hR, -⟩ := rel_clear h
  unfold x6_clear at e2
  rw [mNm_e, mNm_e] at e2
  cases e2
  refine ⟨A', _, e1, hR, ⟨up2_other (by decide), up2_ne (Or.inr (by decide)), up2_other (by decide)⟩, fun e he => ?_, up2_same _ _ _ _⟩
  rw [hR.2.2.2.2.2 e he, up2_other (by omega), h.2.2.2.2.2 e he]
theorem Kp.tr {B B1 B2 : mM} (h : Kp B2 B1) (h2 : Kp B1 B) : Kp B2 B := ⟨h.1.trans h2.1, h.2.1.trans h2.2.1, h.2.2.trans h2.2.2⟩
theorem RT.nI {w0 w S : mR} {p b : Nat} (h : RT w0 w S p b) (hb : b < 20) : rN w = b := by unfold rN; rw [h.1, jA_clamp (by omega)]
theorem TXT.type {k : Nat} {M B B0 : mM} {w0 S : mR} {len p b p' b' : Nat} (h : TXT k M B B0 w0 S len p b) (hl : len < 40) {c : Int32} (hc : 32 ≤ c.toInt ∧ c.toInt ≤ 126) (ht : tk p b c = some (p', b')) (hr : RT w0 (lst (rowT w0 (B 251) len) c) S p' b') : ∃ M' B', x5_type c M = some (nI (len + 1), M') ∧ TXT k M' B' B0 w0 S (len + 1) p' b' ∧ ∀ e, 246 ≤ e → M' e = M e := by
  obtain ⟨h1, h2, h3, h4, h5⟩ := h
  obtain ⟨M', B', e1, e2, e3, e4, e5, e6⟩ := oType h1 h3 hl hc
  have hcg : ∀ i, i < len → B' 251 i = B 251 i := fun i hi => by rw [e6, upd_n (by omega)]
  refine ⟨M', B', e1, ⟨e2, e3.tr h2, e5, ?_, ?_⟩, e4⟩
  · rw [trk, trk_cong hcg, h4, e6, upd_s]; exact ht
  · rw [rowT, rowT_cong hcg, e6, upd_s]; exact hr
/-- a digit -/
theorem TXT.digit {k : Nat} {M B B0 : mM} {w0 S : mR} {len b d : Nat} (h : TXT k M B B0 w0 S len 0 b) (hl : len < 40) (hb : b < 12) (hd : d < 10) (hS : S (3 * b) = nI d) : ∃ M' B', x5_type ((48 : Int32) + nI d) M = some (nI (len + 1), M') ∧ TXT k M' B' B0 w0 S (len + 1) 1 (b + 1) ∧ ∀ e, 246 ≤ e → M' e = M e := by
  have ec : (48 : Int32) + nI d = nI (48 + d) := nI_add 48 d
  have hN := h.2.2.2.2.nI (by omega)
  have hr := h.2.2.2.2
  rw [ec]
  have e48 : (48 : Int32).toInt = 48 := by decide
  have e57 : (57 : Int32).toInt = 57 := by decide
  refine h.type hl (by rw [jA_n (by omega)]; omega) (p' := 1) (b' := b + 1) ?_ ?_
  · unfold tk
    rw [if_pos rfl, if_neg (fun q => by rw [jA_lt, jA_n (by omega), e48] at q; omega), if_neg (fun q => by rw [jA_lt, jA_n (by omega), e57] at q; omega)]
  · obtain ⟨r1, r2, r3⟩ := hr
    unfold lst
    rw [if_pos (by rw [jA_n (by omega)]; omega), hN, show nI (48 + d) - (48 : Int32) = nI d by rw [show nI (48 + d) - (48 : Int32) = nI (48 + d - 48) from pk_sub (b := 48) (by omega), Nat.add_sub_cancel_left]]
    refine ⟨upd_s _ _ _, fun e he => ?_, fun j hj hj2 => ?_⟩
    · by_cases q : e = b
      · subst q
        rw [upd_n (by omega), upd_n (by omega), upd_n (by omega), upd_s, upd_n (by omega), upd_s, upd_n (by omega), upd_n (by omega), upd_s]
        refine ⟨hS.symm, rfl, ?_, ?_⟩
        · by_cases q0 : e = 0
          · rw [if_pos q0]; exact Or.inr rfl
          · rw [if_neg q0]; exact Or.inl rfl
        · by_cases q0 : e = 0
          · rw [if_pos q0]; exact ⟨fun _ => Or.inl q0, fun _ => rfl⟩
          · rw [if_neg q0]; exact ⟨fun z => absurd z (by decide), fun z => by omega⟩
      · obtain ⟨a1, a2, a3, a4⟩ := r2 e (by omega)
        rw [upd_n (by omega), upd_n (by omega), upd_n (by omega), upd_n (by omega), upd_n (by omega), upd_n (by omega), upd_n (by omega), upd_n (by omega), upd_n (by omega), upd_n (by omega), upd_n (by omega), upd_n (by omega)]
        refine ⟨a1, a2, a3, a4.trans ⟨fun z => ?_, fun z => ?_⟩⟩
        · rcases z with z | z
          · exact Or.inl z
          · exact Or.inr ⟨z.1, Or.inl (by omega)⟩
        · rcases z with z | z
          · exact Or.inl z
          · exact Or.inr ⟨z.1, Or.inr (Or.inr rfl)⟩
    · rw [upd_n hj2, upd_n (by omega), upd_n (by omega), upd_n (by omega)]
      exact r3 j hj hj2
/-- a p -/
theorem TXT.p {k : Nat} {M B B0 : mM} {w0 S : mR} {len b : Nat} (h : TXT k M B B0 w0 S len 1 (b + 1)) (hl : len < 40) (hb : b < 12) (hS : S (3 * b + 1) = 1) : ∃ M' B', x5_type 112 M = some (nI (len + 1), M') ∧ TXT k M' B' B0 w0 S (len + 1) 2 (b + 1) ∧ ∀ e, 246 ≤ e → M' e = M e := by
  have hN := h.2.2.2.2.nI (by omega)
  have hr := h.2.2.2.2
  refine h.type hl (by decide) (p' := 2) (b' := b + 1) ?_ ?_
  · unfold tk
    rw [if_neg (by decide), if_neg (by decide), if_pos rfl, if_pos rfl]
  · obtain ⟨r1, r2, r3⟩ := hr
    unfold lst
    rw [if_neg (by decide), if_pos rfl, hN, Nat.add_sub_cancel]
    refine ⟨by rw [upd_n (by omega)]; exact r1, fun e he => ?_, fun j hj hj2 => by rw [upd_n (by omega)]; exact r3 j hj hj2⟩
    obtain ⟨a1, a2, a3, a4⟩ := r2 e he
    rw [upd_n (by omega), upd_n (show 3 * e + 2 ≠ 3 * b + 1 by omega)]
    by_cases q : e = b
    · subst q
      rw [upd_s]
      exact ⟨a1, a2, Or.inr rfl, fun _ => Or.inr ⟨hS, Or.inr (Or.inl rfl)⟩, fun _ => rfl⟩
    · rw [upd_n (by omega)]
      refine ⟨a1, a2, a3, a4.trans ⟨fun z => ?_, fun z => ?_⟩⟩
      · rcases z with z | z
        · exact Or.inl z
        · exact Or.inr ⟨z.1, Or.inl (by omega)⟩
      · rcases z with z | z
        · exact Or.inl z
        · exact Or.inr ⟨z.1, Or.inl (by omega)⟩
/-- the reading is at the end of a segment, its p written if there is one -/
def pEnd (S : mR) (p b : Nat) : Prop := (p = 2 ∧ S (3 * b + 1) = 1) ∨ (p = 1 ∧ S (3 * b + 1) ≠ 1)
/-- a comma -/
theorem TXT.comma {k : Nat} {M B B0 : mM} {w0 S : mR} {len p b : Nat} (h : TXT k M B B0 w0 S len p (b + 1)) (hl : len < 40) (hb : b < 11) (hp : pEnd S p b) : ∃ M' B', x5_type 44 M = some (nI (len + 1), M') ∧ TXT k M' B' B0 w0 S (len + 1) 0 (b + 1) ∧ ∀ e, 246 ≤ e → M' e = M e := by
  have hr := h.2.2.2.2
  have p0 : p ≠ 0 := by rcases hp with ⟨q, -⟩ | ⟨q, -⟩ <;> omega
  refine h.type hl (by decide) (p' := 0) (b' := b + 1) ?_ ?_
  · unfold tk
    rw [if_neg p0, if_pos rfl, if_neg (by omega)]
  · obtain ⟨r1, r2, r3⟩ := hr
    unfold lst
    rw [if_neg (by decide), if_neg (by decide)]
    refine ⟨r1, fun e he => ?_, r3⟩
    obtain ⟨a1, a2, a3, a4⟩ := r2 e he
    refine ⟨a1, a2, a3, a4.trans ⟨fun z => ?_, fun z => ?_⟩⟩
    · rcases z with z | z
      · exact Or.inl z
      · exact Or.inr ⟨z.1, Or.inr (Or.inr rfl)⟩
    · rcases z with z | z
      · exact Or.inl z
      · refine Or.inr ⟨z.1, ?_⟩
        rcases hp with ⟨q1, q2⟩ | ⟨q1, q2⟩
        · exact Or.inr (Or.inl q1)
        · by_cases q : e = b
          · subst q; exact absurd z.1 q2
          · exact Or.inl (by omega)
theorem RT.cg {w0 w S S' : mR} {p b : Nat} (h : RT w0 w S p b) (hS : ∀ j, j < 3 * b → S' j = S j) : RT w0 w S' p b := by
  obtain ⟨r1, r2, r3⟩ := h
  refine ⟨r1, fun e he => ?_, r3⟩
  rw [hS _ (by omega), hS _ (by omega)]
  exact r2 e he
theorem TXT.law {k : Nat} {M M1 B B0 : mM} {w0 S S' : mR} {len p b : Nat} (h : TXT k M B B0 w0 S len p b) (hl : ∀ e, e < 246 → M1 e = M e) (hS : ∀ j, j < 3 * b → S' j = S j) : TXT k M1 (lawB B M1) B0 w0 S' len p b := by
  obtain ⟨h1, ⟨h2, h2', h2''⟩, h3, h4, h5⟩ := h
  refine ⟨h1.law hl, ⟨?_, ?_, ?_⟩, ?_, ?_, ?_⟩
  · rw [lawB_o (by decide)]; exact h2
  · rw [lawB_o (by decide)]; exact h2'
  · rw [lawB_o (by decide)]; exact h2''
  · rw [lawB_o (by decide)]; exact h3
  · rw [lawB_o (by decide)]; exact h4
  · rw [lawB_o (by decide)]; exact h5.cg hS
/-! how long the text is -/
def flN (S : mR) (e : Nat) : Nat := if S (3 * e + 1) = 1 then 1 else 0
def Lc (S : mR) (b : Nat) : Nat := sumN (fun e => 2 + flN S e) b
theorem flN_le (S : mR) (e : Nat) : flN S e ≤ 1 := by
  unfold flN
  by_cases h : S (3 * e + 1) = 1
  · rw [if_pos h]; exact Nat.le_refl _
  · rw [if_neg h]; exact Nat.zero_le _
theorem Lc_le (S : mR) (b : Nat) : Lc S b ≤ b * 3 := sumN_le (fun i _ => by have := flN_le S i; omega)
theorem Lc_s (S : mR) (b : Nat) : Lc S (b + 1) = Lc S b + (2 + flN S b) := rfl
theorem Lc_cg {S S' : mR} {b : Nat} (h : ∀ j, j < 3 * b → S' j = S j) : Lc S' b = Lc S b := sumN_cong (fun i hi => by unfold flN; rw [h _ (by omega)])
theorem lmOf {M' G : mM} {D S T : mR} (h : ∀ e, 246 ≤ e → M' e = lm 246 247 248 G D S T e) : M' = lm 246 247 248 M' D S T := by
  have ea : M' 246 = D := (h 246 (by decide)).trans lm_a
  have eb : M' 247 = S := (h 247 (by decide)).trans (lm_b d678)
  have ec : M' 248 = T := (h 248 (by decide)).trans (lm_c d678)
  rw [← ea, ← eb, ← ec, lm_id]
/-- a segment's digit, and its p if it has one -/
theorem segType {k : Nat} {G B B0 : mM} {D S T w0 : mR} {len b d : Nat} (h : TXT k (lm 246 247 248 G D S T) B B0 w0 S len 0 b) (hl : len < 38) (hb : b < 8) (hd : d < 10) (hS : S (3 * b) = nI d) : ∃ G1 B1, x5_type ((48 : Int32) + nI d) (lm 246 247 248 G D S T) = some (nI (len + 1), lm 246 247 248 G1 D S T) ∧ TXT k (lm 246 247 248 G1 D S T) B1 B0 w0 S (len + 1) 1 (b + 1) ∧ (∀ e, 249 ≤ e → G1 e = G e) ∧ (S (3 * b + 1) = 1 → ∃ G2 B2, x5_type 112 (lm 246 247 248 G1 D S T) = some (nI (len + 1 + 1), lm 246 247 248 G2 D S T) ∧ TXT k (lm 246 247 248 G2 D S T) B2 B0 w0 S (len + 1 + 1) 2 (b + 1) ∧ ∀ e, 249 ≤ e → G2 e = G e) := by
  obtain ⟨M1, B1, e1, e2, e3⟩ := h.digit (by omega) (by omega) hd hS
  have eM := lmOf e3
  have f1 : ∀ e, 249 ≤ e → M1 e = G e := fun e he => (e3 e (by omega)).trans (lm_o (by omega) (by omega) (by omega))
  rw [eM] at e1 e2
  refine ⟨M1, B1, e1, e2, f1, fun hp => ?_⟩
  obtain ⟨M2, B2, g1, g2, g3⟩ := e2.p (by omega) (by omega) hp
  have eM2 := lmOf g3
  rw [eM2] at g1 g2
  exact ⟨M2, B2, g1, g2, fun e he => ((g3 e (by omega)).trans (lm_o (by omega) (by omega) (by omega))).trans (f1 e he)⟩
theorem commaType {k : Nat} {G B B0 : mM} {D S T w0 : mR} {len p b : Nat} (h : TXT k (lm 246 247 248 G D S T) B B0 w0 S len p (b + 1)) (hl : len < 40) (hb : b < 8) (hp : pEnd S p b) : ∃ G1 B1, x5_type 44 (lm 246 247 248 G D S T) = some (nI (len + 1), lm 246 247 248 G1 D S T) ∧ TXT k (lm 246 247 248 G1 D S T) B1 B0 w0 S (len + 1) 0 (b + 1) ∧ ∀ e, 249 ≤ e → G1 e = G e := by
  obtain ⟨M1, B1, e1, e2, e3⟩ := h.comma hl (by omega) hp
  have eM := lmOf e3
  have f1 : ∀ e, 249 ≤ e → M1 e = G e := fun e he => (e3 e (by omega)).trans (lm_o (by omega) (by omega) (by omega))
  rw [eM] at e1 e2
  exact ⟨M1, B1, e1, e2, f1⟩
