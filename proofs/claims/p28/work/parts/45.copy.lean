/-! copying States and rows -/
theorem x2c (G : mM) {a b : Nat} (hab : a ≠ b) : ∃ G', x2_copyFrom a b G = some G' ∧ (∀ e, e ≠ a → G' e = G e) ∧ (∀ k, k < 5 → G' a k = G b k) ∧ (∀ k, 5 ≤ k → G' a k = G a k) := by
  unfold x2_copyFrom
  simp only [mNm_e]
  refine ⟨_, rfl, fun e he => ?_, fun k hk => ?_, fun k hk => ?_⟩
  · rw [up2_other he, up2_other he, up2_other he, up2_other he, up2_other he]
  · have hb := Ne.symm hab
    rcases (show k = 0 ∨ k = 1 ∨ k = 2 ∨ k = 3 ∨ k = 4 by omega) with rfl | rfl | rfl | rfl | rfl
    · rw [up2_ne (Or.inr (by decide)), up2_ne (Or.inr (by decide)), up2_ne (Or.inr (by decide)), up2_ne (Or.inr (by decide)), up2_same]
    · rw [up2_ne (Or.inr (by decide)), up2_ne (Or.inr (by decide)), up2_ne (Or.inr (by decide)), up2_same, up2_other hb]
    · rw [up2_ne (Or.inr (by decide)), up2_ne (Or.inr (by decide)), up2_same, up2_other hb, up2_other hb]
    · rw [up2_ne (Or.inr (by decide)), up2_same, up2_other hb, up2_other hb, up2_other hb]
    · rw [up2_same, up2_other hb, up2_other hb, up2_other hb, up2_other hb]
  · rw [up2_ne (Or.inr (by omega)), up2_ne (Or.inr (by omega)), up2_ne (Or.inr (by omega)), up2_ne (Or.inr (by omega)), up2_ne (Or.inr (by omega))]
theorem x4c (G : mM) {a b : Nat} (hab : a ≠ b) (h4 : G b 4 = 0 ∨ G b 4 = 1) : ∃ G', x4_copyFrom a b G = some G' ∧ (∀ e, e ≠ a → G' e = G e) ∧ (∀ k, k < 9 → G' a k = G b k) ∧ (∀ k, 9 ≤ k → G' a k = G a k) := by
  have hb := Ne.symm hab
  unfold x4_copyFrom
  simp only [mNm_e]
  rw [mCk_t (by rw [up2_other hb, up2_other hb, up2_other hb, up2_other hb]; exact h4)]
  refine ⟨_, rfl, fun e he => ?_, fun k hk => ?_, fun k hk => ?_⟩
  · simp only [up2_other he]
  · simp only [up2_other hb]
    rcases (show k = 0 ∨ k = 1 ∨ k = 2 ∨ k = 3 ∨ k = 4 ∨ k = 5 ∨ k = 6 ∨ k = 7 ∨ k = 8 by omega) with rfl | rfl | rfl | rfl | rfl | rfl | rfl | rfl | rfl <;> simp [up2]
  · rw [up2_ne (Or.inr (by omega)), up2_ne (Or.inr (by omega)), up2_ne (Or.inr (by omega)), up2_ne (Or.inr (by omega)), up2_ne (Or.inr (by omega)), up2_ne (Or.inr (by omega)), up2_ne (Or.inr (by omega)), up2_ne (Or.inr (by omega)), up2_ne (Or.inr (by omega))]
theorem cCopyS {A : mM} {c d : Nat} (hdis : c + 20 ≤ d ∨ d + 20 ≤ c) : ∃ A', x3_copyFrom_L10 c d mFu 0 A = some A' ∧ (∀ e, (e < c + 4 ∨ c + 16 ≤ e) → A' e = A e) ∧ (∀ s, s < 12 → (∀ k, k < 5 → A' (c + 4 + s) k = A (d + 4 + s) k) ∧ A' (c + 4 + s) 5 = A (c + 4 + s) 5) := by
  have hLp := lpI (fun f a i => x3_copyFrom_L10 c d f i a) id (fun i A' => (∀ e, (e < c + 4 ∨ c + 4 + i ≤ e) → A' e = A e) ∧ (∀ s, s < i → (∀ k, k < 5 → A' (c + 4 + s) k = A (d + 4 + s) k) ∧ A' (c + 4 + s) 5 = A (c + 4 + s) 5)) 12 (fun f i A1 hi hI => ?_) (fun f A1 hI => ?_) 12 0 mFu A rfl (by unfold mFu; decide) ⟨fun _ _ => rfl, fun s hs => by omega⟩
  · obtain ⟨A', h1, h2, h3⟩ := hLp
    exact ⟨A', h1, fun e he => h2 e (by omega), h3⟩
  · obtain ⟨a1, a2⟩ := hI
    show ∃ a', x3_copyFrom_L10 c d (f + 1) (nI i) A1 = x3_copyFrom_L10 c d f (nI (i + 1)) a' ∧ _
    obtain ⟨A2, b1, b2, b3, b4⟩ := x2c A1 (a := c + 4 + i) (b := d + 4 + i) (by omega)
    rw [x3_copyFrom_L10, if_neg (k12 hi), if_neg (k12 hi), mCk_t (jA_in (by omega) (by decide)), mCk_t (jA_in (by omega) (by decide)), jA_clamp (by omega), b1, bs, mNm_e, jA_1]
    refine ⟨A2, rfl, fun e he => ?_, fun s hs => ?_⟩
    · rw [b2 e (by omega)]; exact a1 e (by omega)
    · by_cases e : s = i
      · subst e
        exact ⟨fun k hk => by rw [b3 k hk, a1 _ (by omega)], by rw [b4 5 (by decide), a1 _ (by omega)]⟩
      · rw [b2 _ (by omega)]
        exact a2 s (by omega)
  · show x3_copyFrom_L10 c d (f + 1) (nI 12) A1 = _
    rw [x3_copyFrom_L10, if_pos k1212]
    rfl
theorem cCopyT {A : mM} {c d : Nat} (hdis : c + 20 ≤ d ∨ d + 20 ≤ c) (h4 : ∀ t, t < 4 → A (d + 16 + t) 4 = 0 ∨ A (d + 16 + t) 4 = 1) : ∃ A', x3_copyFrom_L59 c d mFu 0 A = some A' ∧ (∀ e, (e < c + 16 ∨ c + 20 ≤ e) → A' e = A e) ∧ (∀ t, t < 4 → ∀ k, k < 9 → A' (c + 16 + t) k = A (d + 16 + t) k) := by
  have hLp := lpI (fun f a i => x3_copyFrom_L59 c d f i a) id (fun i A' => (∀ e, (e < c + 16 ∨ c + 16 + i ≤ e) → A' e = A e) ∧ (∀ s, s < i → ∀ k, k < 9 → A' (c + 16 + s) k = A (d + 16 + s) k)) 4 (fun f i A1 hi hI => ?_) (fun f A1 hI => ?_) 4 0 mFu A rfl (by unfold mFu; decide) ⟨fun _ _ => rfl, fun s hs => by omega⟩
  · obtain ⟨A', h1, h2, h3⟩ := hLp
    exact ⟨A', h1, fun e he => h2 e (by omega), h3⟩
  · obtain ⟨a1, a2⟩ := hI
    show ∃ a', x3_copyFrom_L59 c d (f + 1) (nI i) A1 = x3_copyFrom_L59 c d f (nI (i + 1)) a' ∧ _
    obtain ⟨A2, b1, b2, b3, b4⟩ := x4c A1 (a := c + 16 + i) (b := d + 16 + i) (by omega) (by rw [a1 _ (by omega)]; exact h4 i hi)
    rw [x3_copyFrom_L59, if_neg (k4 hi), if_neg (k4 hi), mCk_t (jA_in (by omega) (by decide)), mCk_t (jA_in (by omega) (by decide)), jA_clamp (by omega), b1, bs, mNm_e, jA_1]
    refine ⟨A2, rfl, fun e he => ?_, fun s hs k hk => ?_⟩
    · rw [b2 e (by omega)]; exact a1 e (by omega)
    · by_cases e : s = i
      · subst e
        rw [b3 k hk, a1 _ (by omega)]
      · rw [b2 _ (by omega)]
        exact a2 s (by omega) k hk
  · show x3_copyFrom_L59 c d (f + 1) (nI 4) A1 = _
    rw [x3_copyFrom_L59, if_pos k44]
    rfl
theorem k3 {i : Nat} (h : i < 3) : ¬ (3 : Int32) ≤ nI i := fun q => by have := (jA_nle (a := 3) (by decide) (by omega)).mp q; omega
theorem cCopyE {A : mM} {c d : Nat} (hdis : c + 20 ≤ d ∨ d + 20 ≤ c) : ∃ A', x3_copyFrom_L100 c d mFu 0 A = some A' ∧ (∀ e, e ≠ c + 3 → A' e = A e) ∧ (∀ k, k < 3 → A' (c + 3) k = A (d + 3) k) := by
  have hLp := lpI (fun f a i => x3_copyFrom_L100 c d f i a) id (fun i A' => (∀ e, e ≠ c + 3 → A' e = A e) ∧ (∀ k, k < i → A' (c + 3) k = A (d + 3) k)) 3 (fun f i A1 hi hI => ?_) (fun f A1 hI => ?_) 3 0 mFu A rfl (by unfold mFu; decide) ⟨fun _ _ => rfl, fun s hs => by omega⟩
  · obtain ⟨A', h1, h2, h3⟩ := hLp
    exact ⟨A', h1, h2, h3⟩
  · obtain ⟨a1, a2⟩ := hI
    show ∃ a', x3_copyFrom_L100 c d (f + 1) (nI i) A1 = x3_copyFrom_L100 c d f (nI (i + 1)) a' ∧ _
    rw [x3_copyFrom_L100, if_neg (k3 hi), if_neg (k3 hi), mCk_t (jA_in (by omega) (by decide)), mCk_t (jA_in (by omega) (by decide)), jA_clamp (by omega), mNm_e, mNm_e, jA_1, a1 (d + 3) (by omega)]
    refine ⟨_, rfl, fun e he => ?_, fun k hk => ?_⟩
    · rw [up2_other he]; exact a1 e he
    · by_cases e : k = i
      · rw [e, up2_same]
      · rw [up2_ne (Or.inr e)]; exact a2 k (by omega)
  · show x3_copyFrom_L100 c d (f + 1) (nI 3) A1 = _
    rw [x3_copyFrom_L100, if_pos (show (3 : Int32) ≤ nI 3 from (jA_nle (a := 3) (by decide) (by decide)).mpr (by decide))]
    rfl
theorem cCopy {A : mM} {c d : Nat} {z : mR} (h : Rs A d z) (hi : rInv z) (hc : Cl A c) (hd : Cl A d) (hdis : c + 20 ≤ d ∨ d + 20 ≤ c) : ∃ A', x3_copyFrom c d A = some A' ∧ Rs A' c z ∧ Cl A' c ∧ (∀ e, (e < c ∨ c + 20 ≤ e) → A' e = A e) := by
  have hn := hi.n
  have hm := hi.m
  obtain ⟨A1, a1, a2, a3⟩ := cCopyS (A := up2 A c 3 (A d 3)) hdis
  have a2' : ∀ e, (e < c + 4 ∨ c + 16 ≤ e) → e ≠ c → A1 e = A e := fun e he hne => by rw [a2 e he, up2_other hne]
  obtain ⟨A2, b1, b2, b3⟩ := cCopyT (A := up2 A1 c 4 (A1 d 4)) hdis (fun t ht => by rw [up2_other (by omega), a2' _ (by omega) (by omega)]; exact hd.2 t ht)
  have b2' : ∀ e, (e < c + 16 ∨ c + 20 ≤ e) → e ≠ c → A2 e = A1 e := fun e he hne => by rw [b2 e he, up2_other hne]
  obtain ⟨A3, g1, g2, g3⟩ := cCopyE (A := A2) (c := c) (d := d) hdis
  have ed : ∀ k, A3 d k = A d k := fun k => by rw [g2 _ (by omega), b2' _ (by omega) (by omega), a2' _ (by omega) (by omega)]
  have e3 : A3 c 3 = A d 3 := by rw [g2 _ (by omega), b2 _ (by omega), up2_ne (Or.inr (by decide)), a2 _ (by omega), up2_same]
  have e4 : A3 c 4 = A d 4 := by rw [g2 _ (by omega), b2 _ (by omega), up2_same, a2' _ (by omega) (by omega)]
  have hcd : d ≠ c := by omega
  refine ⟨up2 (up2 (up2 (up2 (up2 A3 c 5 (A3 d 5)) c 6 (A3 d 6)) c 7 (A3 d 7)) c 8 (A3 d 8)) c 9 (A3 d 9), ?_, ?_, ?_, ?_⟩
  · unfold x3_copyFrom
    rw [mNm_e, a1, bs, mNm_e, b1, bs, g1, bs]
    simp only [mNm_e, up2_other hcd]
  · refine ⟨⟨?_, ?_, ?_, ?_, ?_, ?_, ?_⟩, ⟨?_, ?_, ?_⟩, fun s hs => ?_, fun s hs => ?_, fun t ht k hk => ?_⟩
    · rw [up2_ne (Or.inr (by decide)), up2_ne (Or.inr (by decide)), up2_ne (Or.inr (by decide)), up2_ne (Or.inr (by decide)), up2_ne (Or.inr (by decide)), e3]; exact h.1.1
    · rw [up2_ne (Or.inr (by decide)), up2_ne (Or.inr (by decide)), up2_ne (Or.inr (by decide)), up2_ne (Or.inr (by decide)), up2_ne (Or.inr (by decide)), e4]; exact h.1.2.1
    · rw [up2_ne (Or.inr (by decide)), up2_ne (Or.inr (by decide)), up2_ne (Or.inr (by decide)), up2_ne (Or.inr (by decide)), up2_same, ed]; exact h.1.2.2.1
    · rw [up2_ne (Or.inr (by decide)), up2_ne (Or.inr (by decide)), up2_ne (Or.inr (by decide)), up2_same, ed]; exact h.1.2.2.2.1
    · rw [up2_ne (Or.inr (by decide)), up2_ne (Or.inr (by decide)), up2_same, ed]; exact h.1.2.2.2.2.1
    · rw [up2_ne (Or.inr (by decide)), up2_same, ed]; exact h.1.2.2.2.2.2.1
    · rw [up2_same, ed]; exact h.1.2.2.2.2.2.2
    · simp only [up2_other (show c + 3 ≠ c by omega)]; rw [g3 _ (by decide), b2' _ (by omega) (by omega), a2' _ (by omega) (by omega)]; exact h.set.1
    · simp only [up2_other (show c + 3 ≠ c by omega)]; rw [g3 _ (by decide), b2' _ (by omega) (by omega), a2' _ (by omega) (by omega)]; exact h.set.2.1
    · simp only [up2_other (show c + 3 ≠ c by omega)]; rw [g3 _ (by decide), b2' _ (by omega) (by omega), a2' _ (by omega) (by omega)]; exact h.set.2.2
    · have q : ∀ k, k < 5 → A3 (c + 4 + s) k = A (d + 4 + s) k := fun k hk => by rw [g2 _ (by omega), b2' _ (by omega) (by omega), (a3 s (by omega)).1 k hk, up2_other (by omega)]
      simp only [up2_other (show c + 4 + s ≠ c by omega)]
      rw [q 0 (by decide), q 1 (by decide), q 2 (by decide), q 3 (by decide), q 4 (by decide)]
      exact h.seg hs
    · simp only [up2_other (show c + 4 + s ≠ c by omega)]
      rw [g2 _ (by omega), b2' _ (by omega) (by omega), (a3 s (by omega)).2, up2_other (by omega)]
      exact hc.1 s hs
    · simp only [up2_other (show c + 16 + t ≠ c by omega)]
      rw [g2 _ (by omega), b3 t (by omega) k hk, up2_other (by omega), a2' _ (by omega) (by omega)]
      exact h.tr ht hk
  · refine ⟨fun s hs => ?_, fun t ht => ?_⟩
    · simp only [up2_other (show c + 4 + s ≠ c by omega)]
      rw [g2 _ (by omega), b2' _ (by omega) (by omega), (a3 s (by omega)).2, up2_other (by omega)]
      exact hc.1 s hs
    · simp only [up2_other (show c + 16 + t ≠ c by omega)]
      rw [g2 _ (by omega), b3 t (by omega) 4 (by decide), up2_other (by omega), a2' _ (by omega) (by omega)]
      exact hd.2 t ht
  · intro e he
    simp only [up2_other (show e ≠ c by omega)]
    rw [g2 _ (by omega), b2' _ (by omega) (by omega), a2' _ (by omega) (by omega)]
/-! rows of the reference -/
def cpR (G : mM) (a o b q n : Nat) : mM := fun c k => if c = b ∧ q ≤ k ∧ k < q + n then G a (o + (k - q)) else G c k
theorem eCopy (G : mM) {a n1 o b n3 q : Nat} (hab : a ≠ b) (h1 : o + 82 ≤ n1) (h3 : q + 82 ≤ n3) (hn1 : n1 < 1000) (hn3 : n3 < 1000) : x6_copy a n1 (nI o) b n3 (nI q) G = some (cpR G a o b q 82) := by
  have h := lpV (fun f g i => x6_copy_L3 a n1 (nI o) b n3 (nI q) f i g) id (fun i => cpR G a o b q i) 82 (by decide) (fun f i hi => ?_) (fun f => ?_)
  · have e0 : cpR G a o b q 0 = G := by
      funext c k
      unfold cpR
      rw [if_neg (by omega)]
    dsimp only [id] at h
    rw [e0] at h
    unfold x6_copy
    rw [show x6_copy_L3 a n1 (nI o) b n3 (nI q) mFu 0 G = _ from h, bs]
  · rw [x6_copy_L3, if_neg (fun q => by have := (jA_nle (a := 82) (by decide) (by omega)).mp q; omega), nI_add, nI_add, mCk_t (jA_in (by omega) (by omega)), mCk_t (jA_in (by omega) (by omega)), jA_clamp (by omega), jA_clamp (by omega), mNm_e, mNm_e, jA_1]
    congr 1
    funext c k
    unfold up2 cpR
    by_cases hc : c = b
    · subst hc
      by_cases hk : k = q + i
      · subst hk
        rw [if_pos ⟨rfl, rfl⟩, if_neg (fun z => hab z.1), if_pos ⟨rfl, by omega, by omega⟩]
        congr 2
        omega
      · rw [if_neg (fun z => hk z.2)]
        by_cases hk2 : q ≤ k ∧ k < q + i
        · rw [if_pos ⟨rfl, hk2⟩, if_pos ⟨rfl, by omega, by omega⟩]
        · rw [if_neg (fun z => hk2 z.2), if_neg (by omega)]
    · rw [if_neg (fun z => hc z.1), if_neg (fun z => hc z.1), if_neg (fun z => hc z.1)]
  · dsimp only [id]
    rw [x6_copy_L3, if_pos (show (82 : Int32) ≤ nI 82 from (jA_nle (a := 82) (by decide) (by decide)).mpr (by decide))]
