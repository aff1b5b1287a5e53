/-! THE RELATION of the class's memory A and the reference's memory B, behind k calls -/
def rowAt (B : mM) (a o : Nat) : mR := fun k => B a (o + k)
def Del (k : Nat) (z : mR) : Prop := 0 ≤ (z 80).toInt ∧ (z 80).toInt ≤ 192000 * (k : Int)
def RowOk (k : Nat) (A : mM) (c : Nat) (z : mR) : Prop := Rs A c z ∧ rInv z ∧ Del k z
def relT (A B : mM) : Prop := ∃ n, n ≤ 40 ∧ A 241 1 = nI n ∧ B 246 6 = nI n ∧ ∀ i, i < n → A 242 i = B 251 i ∧ 32 ≤ (B 251 i).toInt ∧ (B 251 i).toInt ≤ 126
def relH (k : Nat) (A B : mM) : Prop := ∃ (h : Nat) (sc : Nat → Nat), h ≤ 8 ∧ A 243 1 = nI h ∧ B 246 2 = nI h ∧ (∀ i, i < 8 → A 244 i = nI (sc i) ∧ ∃ j, 2 ≤ j ∧ j < 10 ∧ sc i = 20 * j) ∧ (∀ i i', i < 8 → i' < 8 → sc i = sc i' → i = i') ∧ ∀ i, i < h → RowOk k A (sc i) (rowAt B 249 (82 * i))
def relI (k : Nat) (A B : mM) : Prop := ∃ mk, mk < 4 ∧ A 240 5 = nI mk ∧ B 246 4 = nI mk ∧ (mk % 2 = 1 → RowOk k A 200 (rowAt B 250 0)) ∧ (2 ≤ mk → RowOk k A 220 (rowAt B 250 82))
/-- the law's rows -/
def relF (A B : mM) : Prop := ∀ e, 246 ≤ e → A e = B (1000 + e)
def Rel (k : Nat) (A B : mM) : Prop := RowOk k A 0 (B 247) ∧ (∀ j, j < 12 → Cl A (20 * j)) ∧ relT A B ∧ relH k A B ∧ relI k A B ∧ relF A B
theorem Del.mono {k k' : Nat} {z : mR} (h : Del k z) (hk : k ≤ k') : Del k' z := ⟨h.1, by have := h.2; omega⟩
theorem RowOk.mono {k k' : Nat} {A : mM} {c : Nat} {z : mR} (h : RowOk k A c z) (hk : k ≤ k') : RowOk k' A c z := ⟨h.1, h.2.1, h.2.2.mono hk⟩
theorem RowOk.o {k : Nat} {A A' : mM} {c : Nat} {z : mR} (h : RowOk k A c z) (hf : ∀ d, c ≤ d → d < c + 20 → A' d = A d) : RowOk k A' c z := ⟨h.1.o h.2.1.n.2 h.2.1.m hf, h.2.1, h.2.2⟩
theorem RowOk.c {k : Nat} {A : mM} {c : Nat} {z w : mR} (h : RowOk k A c z) (hw : ∀ j, j < 82 → w j = z j) : RowOk k A c w := ⟨h.1.cg h.2.1 hw, rInv_c h.2.1 hw, by unfold Del; rw [hw 80 (by decide)]; exact h.2.2⟩
theorem rowAt_0 (B : mM) (a : Nat) : rowAt B a 0 = B a := by funext k; unfold rowAt; rw [Nat.zero_add]
theorem rowAt_e {B B' : mM} {a o : Nat} (h : B' a = B a) : rowAt B' a o = rowAt B a o := by funext k; unfold rowAt; rw [h]
theorem Rel.mono {k k' : Nat} {A B : mM} (h : Rel k A B) (hk : k ≤ k') : Rel k' A B := by
  obtain ⟨h1, h2, h3, ⟨n, sc, a1, a2, a3, a4, a5, a6⟩, ⟨mk, b1, b2, b3, b4, b5⟩, hF⟩ := h
  exact ⟨h1.mono hk, h2, h3, ⟨n, sc, a1, a2, a3, a4, a5, fun i hi => (a6 i hi).mono hk⟩, ⟨mk, b1, b2, b3, fun q => (b4 q).mono hk, fun q => (b5 q).mono hk⟩, hF⟩
/-- another present State, all else the same -/
theorem Rel.now {k k' : Nat} {A B A' B' : mM} (h : Rel k A B) (hk : k ≤ k') (hA : ∀ d, 20 ≤ d → A' d = A d) (hB : ∀ d, d ≠ 247 → B' d = B d) (h1 : RowOk k' A' 0 (B' 247)) (hc : Cl A' 0) : Rel k' A' B' := by
  obtain ⟨-, h2, ⟨n, t1, t2, t3, t4⟩, ⟨m, sc, a1, a2, a3, a4, a5, a6⟩, ⟨mk, b1, b2, b3, b4, b5⟩, hF⟩ := h
  refine ⟨h1, fun j hj => ?_, ⟨n, t1, by rw [hA _ (by decide)]; exact t2, by rw [hB _ (by decide)]; exact t3, fun i hi => by rw [hA _ (by decide), hB _ (by decide)]; exact t4 i hi⟩, ⟨m, sc, a1, by rw [hA _ (by decide)]; exact a2, by rw [hB _ (by decide)]; exact a3, fun i hi => by rw [hA _ (by decide)]; exact a4 i hi, a5, fun i hi => ?_⟩, ⟨mk, b1, by rw [hA _ (by decide)]; exact b2, by rw [hB _ (by decide)]; exact b3, fun q => ?_, fun q => ?_⟩, fun e he => by rw [hA _ (by omega), hB _ (by omega)]; exact hF e he⟩
  · by_cases e : j = 0
    · subst e; exact hc
    · exact (h2 j hj).o (fun d hd _ => hA d (by omega))
  · obtain ⟨j, hj1, hj2, hj3⟩ := (a4 i (by omega)).2
    rw [rowAt_e (hB 249 (by decide))]
    exact ((a6 i hi).mono hk).o (fun d hd _ => hA d (by omega))
  · rw [rowAt_e (hB 250 (by decide))]
    exact ((b4 q).mono hk).o (fun d hd _ => hA d (by omega))
  · rw [rowAt_e (hB 250 (by decide))]
    exact ((b5 q).mono hk).o (fun d hd _ => hA d (by omega))
/-- another trial State, another row aside -/
theorem Rel.trial {k : Nat} {A B A' B' : mM} (h : Rel k A B) (hA : ∀ d, d < 20 ∨ 40 ≤ d → A' d = A d) (hB : ∀ d, d ≠ 248 → B' d = B d) (hc : Cl A' 20) : Rel k A' B' := by
  obtain ⟨h1, h2, ⟨n, t1, t2, t3, t4⟩, ⟨m, sc, a1, a2, a3, a4, a5, a6⟩, ⟨mk, b1, b2, b3, b4, b5⟩, hF⟩ := h
  refine ⟨by rw [hB _ (by decide)]; exact h1.o (fun d _ hd => hA d (by omega)), fun j hj => ?_, ⟨n, t1, by rw [hA _ (by decide)]; exact t2, by rw [hB _ (by decide)]; exact t3, fun i hi => by rw [hA _ (by decide), hB _ (by decide)]; exact t4 i hi⟩, ⟨m, sc, a1, by rw [hA _ (by decide)]; exact a2, by rw [hB _ (by decide)]; exact a3, fun i hi => by rw [hA _ (by decide)]; exact a4 i hi, a5, fun i hi => ?_⟩, ⟨mk, b1, by rw [hA _ (by decide)]; exact b2, by rw [hB _ (by decide)]; exact b3, fun q => ?_, fun q => ?_⟩, fun e he => by rw [hA _ (by omega), hB _ (by omega)]; exact hF e he⟩
  · by_cases e : j = 1
    · subst e; exact hc
    · exact (h2 j hj).o (fun d hd hd2 => hA d (by omega))
  · obtain ⟨j, hj1, hj2, hj3⟩ := (a4 i (by omega)).2
    rw [rowAt_e (hB 249 (by decide))]
    exact (a6 i hi).o (fun d hd _ => hA d (by omega))
  · rw [rowAt_e (hB 250 (by decide))]
    exact (b4 q).o (fun d hd _ => hA d (by omega))
  · rw [rowAt_e (hB 250 (by decide))]
    exact (b5 q).o (fun d hd _ => hA d (by omega))
/-- the text and the numbers beside it -/
theorem Rel.text {k : Nat} {A B A' B' : mM} (h : Rel k A B) (hA : ∀ d, d ≠ 241 → d ≠ 242 → A' d = A d) (hB : ∀ d, d ≠ 246 → d ≠ 251 → B' d = B d) (h2 : B' 246 2 = B 246 2) (h4 : B' 246 4 = B 246 4) (hT : relT A' B') : Rel k A' B' := by
  obtain ⟨h1, hc, -, ⟨m, sc, a1, a2, a3, a4, a5, a6⟩, ⟨mk, b1, b2, b3, b4, b5⟩, hF⟩ := h
  refine ⟨by rw [hB _ (by decide) (by decide)]; exact h1.o (fun d _ hd => hA d (by omega) (by omega)), fun j hj => (hc j hj).o (fun d hd hd2 => hA d (by omega) (by omega)), hT, ⟨m, sc, a1, by rw [hA _ (by decide) (by decide)]; exact a2, by rw [h2]; exact a3, fun i hi => by rw [hA _ (by decide) (by decide)]; exact a4 i hi, a5, fun i hi => ?_⟩, ⟨mk, b1, by rw [hA _ (by decide) (by decide)]; exact b2, by rw [h4]; exact b3, fun q => ?_, fun q => ?_⟩, fun e he => by rw [hA _ (by omega) (by omega), hB _ (by omega) (by omega)]; exact hF e he⟩
  · obtain ⟨j, hj1, hj2, hj3⟩ := (a4 i (by omega)).2
    rw [rowAt_e (hB 249 (by decide) (by decide))]
    exact (a6 i hi).o (fun d hd _ => hA d (by omega) (by omega))
  · rw [rowAt_e (hB 250 (by decide) (by decide))]
    exact (b4 q).o (fun d hd _ => hA d (by omega) (by omega))
  · rw [rowAt_e (hB 250 (by decide) (by decide))]
    exact (b5 q).o (fun d hd _ => hA d (by omega) (by omega))
/-! the history -/
theorem cpR_o {G : mM} {a o b q n c : Nat} (h : c ≠ b) : cpR G a o b q n c = G c := by
  funext k
  unfold cpR
  rw [if_neg (fun z => h z.1)]
theorem cpR_in {G : mM} {a o b q n k : Nat} (h : k < n) : cpR G a o b q n b (q + k) = G a (o + k) := by
  unfold cpR
  rw [if_pos ⟨rfl, by omega, by omega⟩]
  congr 1
  omega
theorem cpR_out {G : mM} {a o b q n k : Nat} (h : k < q ∨ q + n ≤ k) : cpR G a o b q n b k = G b k := by
  unfold cpR
  rw [if_neg (by omega)]
def shR (B : mM) (i : Nat) : mM := fun c k => if c = 249 ∧ k + 82 < i then B 249 (k + 82) else B c k
theorem eShift (B : mM) : x6_record_L12 mFu 82 B = some (shR B 656) := by
  have hLp := lpI (fun f g i => x6_record_L12 f i g) id (fun i g => 82 ≤ i ∧ g = shR B i) 656 (fun f i g hi hI => ?_) (fun f g hI => ?_) 574 82 mFu B rfl (by unfold mFu; decide) ⟨Nat.le_refl _, by funext c k; unfold shR; rw [if_neg (by omega)]⟩
  · obtain ⟨g, h1, -, h2⟩ := hLp
    rw [show x6_record_L12 mFu 82 B = some g from h1, h2]
  · obtain ⟨h8, rfl⟩ := hI
    show ∃ a', x6_record_L12 (f + 1) (nI i) (shR B i) = x6_record_L12 f (nI (i + 1)) a' ∧ _
    rw [x6_record_L12, if_neg (fun q => by have := (jA_nle (a := 656) (by decide) (by omega)).mp q; omega), mCk_t (jA_in (by omega) (by decide)), show nI i - (82 : Int32) = nI (i - 82) from pk_sub (b := 82) h8, mCk_t (jA_in (by omega) (by decide)), jA_clamp (by omega), jA_clamp (by omega), mNm_e, mNm_e, jA_1]
    refine ⟨_, rfl, by omega, ?_⟩
    funext c k
    unfold up2 shR
    by_cases hc : c = 249
    · subst hc
      by_cases hk : k = i - 82
      · subst hk
        rw [if_pos ⟨rfl, rfl⟩, if_neg (by omega), if_pos ⟨rfl, by omega⟩]
        congr 1
        omega
      · rw [if_neg (fun z => hk z.2)]
        by_cases hk2 : k + 82 < i
        · rw [if_pos ⟨rfl, hk2⟩, if_pos ⟨rfl, by omega⟩]
        · rw [if_neg (fun z => hk2 z.2), if_neg (by omega)]
    · rw [if_neg (fun z => hc z.1), if_neg (fun z => hc z.1), if_neg (fun z => hc z.1)]
  · show x6_record_L12 (f + 1) (nI 656) g = _
    rw [x6_record_L12, if_pos (show (656 : Int32) ≤ nI 656 from (jA_nle (a := 656) (by decide) (by decide)).mpr (by decide))]
    rfl
