/-! a change is recorded on both sides -/
theorem cDrop {A : mM} {sc : Nat → Nat} (h : ∀ i, i < 8 → A 244 i = nI (sc i) ∧ ∃ j, 2 ≤ j ∧ j < 10 ∧ sc i = 20 * j) : ∃ A', x0_dropOldest A = some A' ∧ (∀ e, e ≠ 244 → e ≠ 243 → A' e = A e) ∧ A' 243 1 = nI 7 ∧ (∀ i, i < 7 → A' 244 i = nI (sc (i + 1))) ∧ A' 244 7 = nI (sc 0) := by
  have hsc : ∀ i, i < 8 → sc i < 240 ∧ sc i % 20 = 0 := fun i hi => by
    obtain ⟨j, h1, h2, h3⟩ := (h i hi).2
    omega
  have h0 : (A 244 0).toNatClampNeg = sc 0 := by rw [(h 0 (by decide)).1, jA_clamp (by have := hsc 0 (by decide); omega)]
  have hLp := lpI (fun f g i => x0_dropOldest_L9 (sc 0) f i g) id (fun i g => 1 ≤ i ∧ (∀ e, e ≠ 244 → g e = A e) ∧ ∀ j, j < 8 → g 244 j = if j + 1 < i then nI (sc (j + 1)) else nI (sc j)) 8 (fun f i g hi hI => ?_) (fun f g hI => ?_) 7 1 mFu A rfl (by unfold mFu; decide) ⟨Nat.le_refl _, fun _ _ => rfl, fun j hj => by rw [if_neg (by omega)]; exact (h j hj).1⟩
  · obtain ⟨g, h1, -, h2, h3⟩ := hLp
    refine ⟨up2 (up2 g 244 7 (nI (sc 0))) 243 1 (8 - 1), ?_, fun e e1 e2 => by rw [up2_other e2, up2_other e1]; exact h2 e e1, by rw [up2_same]; rfl, fun i hi => ?_, ?_⟩
    · unfold x0_dropOldest
      rw [h0, mCk_t (show mStP (sc 0) from hsc 0 (by decide)), show x0_dropOldest_L9 (sc 0) mFu 1 A = some g from h1, bs, mCk_t (show mIn ((8 : Int32) - 1) 8 by decide), mNm_e, mNm_e]
      rfl
    · rw [up2_other (by decide), up2_ne (Or.inr (by omega)), h3 i (by omega), if_pos (by omega)]
    · rw [up2_other (by decide), up2_same]
  · obtain ⟨a1, a2, a3⟩ := hI
    show ∃ a', x0_dropOldest_L9 (sc 0) (f + 1) (nI i) g = x0_dropOldest_L9 (sc 0) f (nI (i + 1)) a' ∧ _
    have e : g 244 i = nI (sc i) := by rw [a3 i hi, if_neg (by omega)]
    have hs := hsc i hi
    rw [x0_dropOldest_L9, if_neg (fun q => by have := (jA_nle (a := 8) (by decide) (by omega)).mp q; omega), mCk_t (jA_in hi (by decide)), jA_clamp (by omega), e, jA_clamp (by omega), mCk_t (show mStP (sc i) from hs), show nI i - (1 : Int32) = nI (i - 1) from pk_sub (b := 1) a1, mCk_t (jA_in (by omega) (by decide)), jA_clamp (by omega), mNm_e, mNm_e, jA_1]
    refine ⟨_, rfl, by omega, fun e he => by rw [up2_other he]; exact a2 e he, fun j hj => ?_⟩
    by_cases hji : j = i - 1
    · subst hji
      rw [up2_same, if_pos (by omega), show i - 1 + 1 = i by omega]
    · rw [up2_ne (Or.inr hji), a3 j hj]
      by_cases hj2 : j + 1 < i
      · rw [if_pos hj2, if_pos (by omega)]
      · rw [if_neg hj2, if_neg (by omega)]
  · show x0_dropOldest_L9 (sc 0) (f + 1) (nI 8) g = _
    rw [x0_dropOldest_L9, if_pos (show (8 : Int32) ≤ nI 8 from (jA_nle (a := 8) (by decide) (by decide)).mpr (by decide))]
    rfl
/-- what recording leaves as it was -/
def recK (A B A' B' : mM) : Prop := (∀ e, e < 40 ∨ (200 ≤ e ∧ e ≠ 243 ∧ e ≠ 244) → A' e = A e) ∧ (∀ e, e ≠ 246 → e ≠ 249 → B' e = B e) ∧ (∀ k, k ≠ 2 → B' 246 k = B 246 k)
theorem recBoth {k : Nat} {A B : mM} (h : Rel k A B) : ∃ A' B', x0_remember 0 A = some A' ∧ x6_record B = some B' ∧ Rel k A' B' ∧ recK A B A' B' := by
  obtain ⟨h1, h2, ⟨n, t1, t2, t3, t4⟩, ⟨m, sc, a1, a2, a3, a4, a5, a6⟩, ⟨mk, b1, b2, b3, b4, b5⟩, hF⟩ := h
  have hsc : ∀ i, i < 8 → sc i < 240 ∧ sc i % 20 = 0 ∧ 40 ≤ sc i ∧ sc i < 200 := fun i hi => by
    obtain ⟨j, h1, h2, h3⟩ := (a4 i hi).2
    omega
  have hcl : ∀ i, i < 8 → Cl A (sc i) := fun i hi => by
    obtain ⟨j, h1, h3, h4⟩ := (a4 i hi).2
    rw [h4]; exact h2 j (by omega)
  have finish : ∀ (A0 B0 : mM) (m0 : Nat) (sc0 : Nat → Nat), m0 < 8 → (∀ e, e ≠ 244 → e ≠ 243 → A0 e = A e) → A0 243 1 = nI m0 → (∀ i, i < 8 → A0 244 i = nI (sc0 i) ∧ ∃ j, 2 ≤ j ∧ j < 10 ∧ sc0 i = 20 * j) → (∀ i i', i < 8 → i' < 8 → sc0 i = sc0 i' → i = i') → (∀ e, e ≠ 246 → e ≠ 249 → B0 e = B e) → (∀ j, j ≠ 2 → B0 246 j = B 246 j) → B0 246 2 = nI m0 → (∀ i, i < m0 → RowOk k A (sc0 i) (rowAt B0 249 (82 * i))) →
      ∃ A1, x3_copyFrom (sc0 m0) 0 A0 = some A1 ∧ Rel k (up2 A1 243 1 (nI (m0 + 1))) (up2 (cpR B0 247 0 249 (82 * m0) 82) 246 2 (nI (m0 + 1))) ∧ recK A B (up2 A1 243 1 (nI (m0 + 1))) (up2 (cpR B0 247 0 249 (82 * m0) 82) 246 2 (nI (m0 + 1))) ∧ A1 243 1 = nI m0 := by
    intro A0 B0 m0 sc0 hm0 e1 e2 e3 e4 e5 e6 e7 e8
    obtain ⟨j0, j1, j2, j3⟩ := (e3 m0 hm0).2
    have hR0 : RowOk k A0 0 (B 247) := h1.o (fun d _ hd => e1 d (by omega) (by omega))
    have hC0 : ∀ j, j < 12 → Cl A0 (20 * j) := fun j hj => (h2 j hj).o (fun d hd1 hd2 => e1 d (by omega) (by omega))
    obtain ⟨A1, g1, g2, g3, g4⟩ := cCopy hR0.1 hR0.2.1 (by rw [j3]; exact hC0 j0 (by omega)) (hC0 0 (by decide)) (c := sc0 m0) (by omega)
    have gA : ∀ e, (e < 40 ∨ 200 ≤ e) → A1 e = A0 e := fun e he => g4 e (by omega)
    refine ⟨A1, g1, ⟨?_, fun j hj => ?_, ⟨n, t1, ?_, ?_, fun i hi => ?_⟩, ⟨m0 + 1, sc0, by omega, by rw [up2_same], by rw [up2_same], fun i hi => ⟨?_, (e3 i hi).2⟩, e4, fun i hi => ?_⟩, ⟨mk, b1, ?_, ?_, fun q => ?_, fun q => ?_⟩, fun e he => by rw [up2_other (by omega), gA _ (by omega), e1 _ (by omega) (by omega), up2_other (by omega), cpR_o (by omega), e5 _ (by omega) (by omega)]; exact hF e he⟩, ⟨fun e he => ?_, fun e he1 he2 => ?_, fun j hj => ?_⟩, by rw [gA _ (by omega)]; exact e2⟩
    · rw [up2_other (by decide), cpR_o (by decide), e5 _ (by decide) (by decide)]
      exact hR0.o (fun d _ hd => by rw [up2_other (by omega), gA _ (by omega)])
    · by_cases e : 20 * j = sc0 m0
      · rw [e]; exact g3.o (fun d _ hd => up2_other (by omega))
      · exact (hC0 j hj).o (fun d hd1 hd2 => by rw [up2_other (by omega), g4 _ (by omega)])
    · rw [up2_other (by decide), gA _ (by omega), e1 _ (by decide) (by decide)]; exact t2
    · rw [up2_ne (Or.inr (by decide)), cpR_o (by decide), e6 _ (by decide)]; exact t3
    · rw [up2_other (by decide), gA _ (by omega), e1 _ (by decide) (by decide), up2_other (by decide), cpR_o (by decide), e5 _ (by decide) (by decide)]; exact t4 i hi
    · rw [up2_other (by decide), gA _ (by omega)]; exact (e3 i hi).1
    · by_cases e : i = m0
      · subst e
        have r : RowOk k A1 (sc0 i) (B 247) := ⟨g2, hR0.2.1, hR0.2.2⟩
        refine (r.o (A' := up2 A1 243 1 (nI (i + 1))) (fun d _ hd => up2_other (by omega))).c (fun j hj => ?_)
        unfold rowAt
        rw [up2_other (by decide), cpR_in hj, Nat.zero_add, e5 _ (by decide) (by decide)]
      · have hne : sc0 i ≠ sc0 m0 := fun q => e (e4 i m0 (by omega) hm0 q)
        obtain ⟨j, k1, k2, k3⟩ := (e3 i (by omega)).2
        refine ((e8 i (by omega)).o (fun d hd1 hd2 => ?_)).c (fun j hj => ?_)
        · rw [up2_other (by omega), g4 _ (by omega), e1 _ (by omega) (by omega)]
        · unfold rowAt
          rw [up2_other (by decide), cpR_out (by omega)]
    · rw [up2_other (by decide), gA _ (by omega), e1 _ (by decide) (by decide)]; exact b2
    · rw [up2_ne (Or.inr (by decide)), cpR_o (by decide), e6 _ (by decide)]; exact b3
    · rw [rowAt_e (B := B) (by rw [up2_other (by decide), cpR_o (by decide), e5 _ (by decide) (by decide)])]
      exact (b4 q).o (fun d hd1 hd2 => by rw [up2_other (by omega), gA _ (by omega), e1 _ (by omega) (by omega)])
    · rw [rowAt_e (B := B) (by rw [up2_other (by decide), cpR_o (by decide), e5 _ (by decide) (by decide)])]
      exact (b5 q).o (fun d hd1 hd2 => by rw [up2_other (by omega), gA _ (by omega), e1 _ (by omega) (by omega)])
    · rw [up2_other (by omega), gA _ (by omega), e1 _ (by omega) (by omega)]
    · rw [up2_other he1, cpR_o he2, e5 _ he1 he2]
    · rw [up2_ne (Or.inr hj), cpR_o (by decide), e6 _ hj]
  have e8i : ∀ m, m < 9 → (nI m < (8 : Int32) ↔ m < 8) := fun m hm => jA_nlt (b := 8) (by omega) (by decide)
  have c8 : ∀ x : Nat, x < 8 → (82 : Int32) * nI x = nI (82 * x) := fun x _ => pk_mul 82 x
  by_cases hm : m < 8
  · obtain ⟨A1, f1, f2, f3, f4⟩ := finish A B m sc hm (fun _ _ _ => rfl) a2 a4 a5 (fun _ _ _ => rfl) (fun _ _ => rfl) a3 a6
    have hs := hsc m hm
    refine ⟨_, _, ?_, ?_, f2, f3⟩
    · unfold x0_remember
      rw [a2, if_pos ((e8i m (by omega)).mpr hm), if_neg (nI_pos (by omega)), if_neg (fun q => by have := (jA_nle (a := 8) (by decide) (by omega)).mp q; omega), mCk_t (jA_in hm (by decide)), jA_clamp (by omega), (a4 m hm).1, jA_clamp (by omega), mCk_t (show mStP (sc m) from ⟨hs.1, hs.2.1⟩), f1, bs, mNm_e, f4, jA_1]
    · unfold x6_record
      rw [a3, if_neg (fun q => by have := (jA_neq (b := 8) (by omega) (by decide)).mp q; omega), c8 m hm, show x6_copy 247 82 0 249 656 (nI (82 * m)) B = _ from eCopy B (o := 0) (by decide) (by decide) (by omega) (by decide) (by decide), bs, mNm_e, cpR_o (by decide), a3, jA_1]
  · have hm8 : m = 8 := by omega
    subst hm8
    obtain ⟨A0, d1, d2, d3, d4, d5⟩ := cDrop a4
    obtain ⟨A1, f1, f2, f3, f4⟩ := finish A0 (up2 (shR B 656) 246 2 (nI 7)) 7 (fun i => if i < 7 then sc (i + 1) else sc 0) (by decide) d2 d3 (fun i hi => by
        by_cases e : i < 7
        · rw [if_pos e]; exact ⟨d4 i e, (a4 (i + 1) (by omega)).2⟩
        · rw [if_neg e, show i = 7 by omega]; exact ⟨d5, (a4 0 (by decide)).2⟩) (fun i i' hi hi' q => by
        by_cases e : i < 7
        · by_cases e' : i' < 7
          · rw [if_pos e, if_pos e'] at q; have := a5 _ _ (by omega) (by omega) q; omega
          · rw [if_pos e, if_neg e'] at q; have := a5 _ _ (by omega) (by omega) q; omega
        · by_cases e' : i' < 7
          · rw [if_neg e, if_pos e'] at q; have := a5 _ _ (by omega) (by omega) q; omega
          · omega) (fun e h1 h2 => by rw [up2_other h1]; funext j; unfold shR; rw [if_neg (fun z => h2 z.1)]) (fun j hj => by rw [up2_ne (Or.inr hj)]; unfold shR; rw [if_neg (by omega)]) (up2_same _ _ _ _) (fun i hi => by
        rw [if_pos hi]
        refine (a6 (i + 1) (by omega)).c (fun j hj => ?_)
        unfold rowAt
        rw [up2_other (by decide)]
        unfold shR
        rw [if_pos ⟨rfl, by omega⟩]
        congr 1
        omega)
    rw [if_neg (show ¬ (7:Nat) < 7 by decide)] at f1
    have hs0 := hsc 0 (by decide)
    refine ⟨_, _, ?_, ?_, f2, f3⟩
    · unfold x0_remember
      rw [a2, if_neg (fun q => by have := (e8i 8 (by decide)).mp q; omega), d1, bs, d3, if_neg (nI_pos (by decide)), if_neg (fun q => by have := (jA_nle (a := 8) (b := 7) (by decide) (by decide)).mp q; omega), mCk_t (jA_in (by decide) (by decide)), jA_clamp (by decide), d5, jA_clamp (by omega), mCk_t (show mStP (sc 0) from ⟨hs0.1, hs0.2.1⟩), f1, bs, mNm_e, f4, jA_1]
    · unfold x6_record
      have s2 : shR B 656 246 2 = nI 8 := by unfold shR; rw [if_neg (by decide)]; exact a3
      rw [a3, if_pos (show nI 8 = (8 : Int32) from rfl), eShift B, bs, mNm_e, s2, show nI 8 - (1 : Int32) = nI 7 from rfl, up2_same, c8 7 (by decide), show x6_copy 247 82 0 249 656 (nI (82 * 7)) (up2 (shR B 656) 246 2 (nI 7)) = _ from eCopy _ (o := 0) (by decide) (by decide) (by decide) (by decide) (by decide), bs, mNm_e, cpR_o (by decide), up2_same, jA_1]
