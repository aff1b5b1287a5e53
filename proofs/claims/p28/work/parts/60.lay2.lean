/-! layTrack: the ends, and the places above and below -/
theorem psI {G : mM} {z : mR} {d s : Nat} (h1 : G d 1 = rRoom z s) (he : rEnd z s → rPs z s) : x2_isPassingPlace d G = some (if rPs z s then 1 else 0) := by
  unfold x2_isPassingPlace
  rw [h1]
  unfold rRoom
  by_cases e : rEnd z s
  · rw [if_pos e, if_pos (he e), if_neg (show ¬ (4 : Int32) < 2 by decide)]
  · rw [if_neg e]
    by_cases p : rPs z s
    · rw [if_pos p, if_pos p, if_neg (show ¬ (2 : Int32) < 2 by decide)]
    · rw [if_neg p, if_neg p, if_pos (show (1 : Int32) < 2 by decide)]
def f34 (q : Nat) (G G' : mM) : Prop := ∀ d j, ¬ (4 ≤ d ∧ d < 16 ∧ j = q) → G' d j = G d j
theorem f34.rf {q : Nat} {G : mM} : f34 q G G := fun _ _ _ => rfl
theorem f34.tr {q : Nat} {G G' G'' : mM} (h : f34 q G G') (h2 : f34 q G' G'') : f34 q G G'' := fun d j a => (h2 d j a).trans (h d j a)
theorem f34.up {q d : Nat} {v : Int32} (G : mM) (hd : 4 ≤ d ∧ d < 16) : f34 q G (up2 G d q v) := fun e j h => up2_ne (by omega)
theorem cBelow {A : mM} {z : mR} (hn : 3 ≤ rN z ∧ rN z ≤ 12) (h3 : A 0 3 = nI (rN z)) (h1 : ∀ s, s < rN z → A (4 + s) 1 = rRoom z s) (he : ∀ s, s < rN z → rEnd z s → rPs z s) : ∃ A', x3_endTrack_L40 0 mFu 0 0 A = some (nI (rN z - 1), A') ∧ f34 4 A A' ∧ ∀ s, s < rN z → A' (4 + s) 4 = nI (rBe z s) := by
  have hlast : rPs z (rN z - 1) := he _ (by omega) (Or.inr (by omega))
  have hLp := lpI (fun f (a : Int32 × mM) i => x3_endTrack_L40 0 f a.1 i a.2) id (fun i a => a.1 = nI (rBe z (min i (rN z))) ∧ f34 4 A a.2 ∧ ∀ s, s < min i (rN z) → a.2 (4 + s) 4 = nI (rBe z s)) 12 (fun f i a hi hI => ?_) (fun f a hI => ?_) 12 0 mFu (0, A) rfl (by unfold mFu; decide) ⟨by rw [Nat.zero_min]; rfl, f34.rf, fun s hs => absurd hs (by omega)⟩
  · obtain ⟨a', q1, q2, q3, q4⟩ := hLp
    have e12 : min 12 (rN z) = rN z := by omega
    rw [e12] at q2 q4
    have hb : rBe z (rN z) = rN z - 1 := by
      unfold rBe
      rw [if_pos (by omega)]
      obtain ⟨q, hq⟩ : ∃ q, rN z - 1 = q + 1 := ⟨rN z - 2, by omega⟩
      rw [hq] at hlast ⊢
      rw [rDn, if_pos hlast]
    refine ⟨a'.2, ?_, q3, q4⟩
    rw [show x3_endTrack_L40 0 mFu 0 0 A = some a' from q1, ← hb, ← q2]
  · obtain ⟨w3, G⟩ := a
    obtain ⟨q1, q2, q3⟩ := hI
    dsimp only at q1 q2 q3
    have g3 : G 0 3 = nI (rN z) := by rw [q2 0 3 (by omega)]; exact h3
    show ∃ a' : Int32 × mM, x3_endTrack_L40 0 (f + 1) w3 (nI i) G = x3_endTrack_L40 0 f a'.1 (nI (i + 1)) a'.2 ∧ _
    rw [x3_endTrack_L40, if_neg (k12 hi), sAn g3 hn.2 (by omega), bs]
    by_cases e : i < rN z
    · have g1 : up2 G (0 + 4 + i) 4 w3 (0 + 4 + i) 1 = rRoom z i := by rw [up2_ne (Or.inr (by decide)), show 0 + 4 + i = 4 + i by omega, q2 _ _ (by omega)]; exact h1 i e
      rw [if_pos e, mOs, mNm_e, psI g1 (he i e), bs, ite10, mNm_e, mNm_e, jA_1]
      have hmn := mn_t e
      have hbe : rBe z (i + 1) = if rPs z i then i else rBe z i := by
        unfold rBe
        rw [if_pos (by omega), Nat.add_sub_cancel]
        cases i with
        | zero => rw [rDn, if_neg (Nat.lt_irrefl 0)]; by_cases r : rPs z 0 <;> simp [r]
        | succ j => rw [rDn, if_pos (Nat.succ_pos j), Nat.add_sub_cancel]
      refine ⟨(nI (rBe z (i + 1)), up2 G (0 + 4 + i) 4 w3), ?_, by rw [hmn.1, hmn.2], q2.tr (f34.up _ (by omega)), fun s hs => ?_⟩
      · rw [hbe, q1, hmn.2]
        by_cases r : rPs z i
        · rw [if_pos r, if_pos r]
        · rw [if_neg r, if_neg r]
      · by_cases e2 : s = i
        · subst e2
          rw [show 0 + 4 + s = 4 + s by omega]
          dsimp only
          rw [up2_same, q1, hmn.2]
        · dsimp only
          rw [up2_other (by omega)]; exact q3 s (by omega)
    · have hmn := mn_f e
      rw [if_neg e, mOn, mNm_e, jA_1]
      exact ⟨(w3, G), rfl, by rw [hmn]; exact q1, q2, by rw [hmn]; exact q3⟩
  · obtain ⟨w3, G⟩ := a
    show x3_endTrack_L40 0 (f + 1) w3 (nI 12) G = _
    rw [x3_endTrack_L40, if_pos k1212]
    rfl
def upN (z : mR) (s : Nat) : Nat := if s < rN z then rUp z 12 s else rN z - 1
theorem upN_s {z : mR} (hi : rInv z) {j : Nat} : upN z j = if j < rN z ∧ rPs z j then j else upN z (j + 1) := by
  have hn := hi.n
  unfold upN
  by_cases e : j < rN z
  · rw [if_pos e]
    by_cases p : rPs z j
    · rw [if_pos ⟨e, p⟩, rUp, if_pos p]
    · rw [if_neg (fun q => p q.2), rUp, if_neg p]
      have hlt : j + 1 < rN z := by
        rcases Nat.lt_or_ge (j + 1) (rN z) with q | q
        · exact q
        · exact absurd (show rPs z j by have := hi.last; rwa [show rN z - 1 = j by omega] at this) p
      rw [if_pos hlt]
      exact rUp_fuel hi 11 12 (j + 1) hlt (by omega) (by omega)
  · rw [if_neg e, if_neg (fun q => e q.1), if_neg (by omega)]
theorem cAbove {z : mR} (hi : rInv z) {A : mM} (h3 : A 0 3 = nI (rN z)) (h1 : ∀ s, s < rN z → A (4 + s) 1 = rRoom z s) (he : ∀ s, s < rN z → rEnd z s → rPs z s) : ∀ (j n : Nat) (G : mM), j < 12 → j + 1 < n → f34 3 A G → (∀ s, j < s → s < rN z → G (4 + s) 3 = nI (rAb z s)) → ∃ G', x3_endTrack_L91 0 n (nI (upN z (j + 1))) (nI j) G = some G' ∧ f34 3 A G' ∧ ∀ s, s < rN z → G' (4 + s) 3 = nI (rAb z s) := by
  have hn := hi.n
  intro j
  have step : ∀ (j n : Nat) (G : mM), j < 12 → f34 3 A G → (∀ s, j < s → s < rN z → G (4 + s) 3 = nI (rAb z s)) → ∃ G', x3_endTrack_L91 0 (n + 1) (nI (upN z (j + 1))) (nI j) G = x3_endTrack_L91 0 n (nI (upN z j)) (nI j + (-1 : Int32)) G' ∧ f34 3 A G' ∧ ∀ s, j ≤ s → s < rN z → G' (4 + s) 3 = nI (rAb z s) := by
    intro j n G hj hf hs
    have g3 : G 0 3 = nI (rN z) := by rw [hf 0 3 (by omega)]; exact h3
    rw [x3_endTrack_L91, if_neg (nI_pos (by omega)), sAn g3 hn.2 (by omega), bs]
    by_cases e : j < rN z
    · have g1 : up2 G (0 + 4 + j) 3 (nI (upN z (j + 1))) (0 + 4 + j) 1 = rRoom z j := by rw [up2_ne (Or.inr (by decide)), show 0 + 4 + j = 4 + j by omega, hf _ _ (by omega)]; exact h1 j e
      rw [if_pos e, mOs, mNm_e, psI g1 (he j e), bs, ite10, mNm_e, mNm_e]
      refine ⟨up2 G (0 + 4 + j) 3 (nI (upN z (j + 1))), ?_, hf.tr (f34.up _ (by omega)), fun s hs1 hs2 => ?_⟩
      · rw [upN_s hi (j := j)]
        by_cases p : rPs z j
        · rw [if_pos p, if_pos ⟨e, p⟩]
        · rw [if_neg p, if_neg (fun q => p q.2)]
      · by_cases e2 : s = j
        · subst e2
          rw [show 0 + 4 + s = 4 + s by omega, up2_same]
          unfold rAb upN
          by_cases e3 : s + 1 < rN z
          · rw [if_pos e3, if_pos e3]
          · rw [if_neg e3, if_neg e3]; congr 1; omega
        · rw [up2_other (by omega)]; exact hs s (by omega) hs2
    · rw [if_neg e, mOn, mNm_e]
      refine ⟨G, ?_, hf, fun s hs1 hs2 => absurd hs2 (by omega)⟩
      rw [upN_s hi (j := j), if_neg (fun q => e q.1)]
  induction j with
  | zero =>
    intro n G hj hn2 hf hs
    obtain ⟨n, rfl⟩ : ∃ q, n = q + 2 := ⟨n - 2, by omega⟩
    obtain ⟨G', a1, a2, a3⟩ := step 0 (n + 1) G hj hf hs
    refine ⟨G', ?_, a2, fun s hs => a3 s (Nat.zero_le _) hs⟩
    rw [a1, x3_endTrack_L91, if_pos (show nI 0 + (-1 : Int32) < 0 by decide)]
  | succ j ih =>
    intro n G hj hn2 hf hs
    obtain ⟨n, rfl⟩ : ∃ q, n = q + 1 := ⟨n - 1, by omega⟩
    obtain ⟨G', a1, a2, a3⟩ := step (j + 1) n G hj hf hs
    have e : nI (j + 1) + (-1 : Int32) = nI j := by
      have : nI (j + 1) - (1 : Int32) = nI j := pk_sub (a := j + 1) (b := 1) (by omega)
      rw [← this, Int32.sub_eq_add_neg]
    rw [a1, e]
    exact ih n G' (by omega) (by omega) a2 (fun s h1 h2 => a3 s (by omega) h2)
theorem cEnd {z : mR} (hi : rInv z) {A : mM} (h3 : A 0 3 = nI (rN z)) (h1 : ∀ s, s < rN z → s ≠ 0 → s + 1 ≠ rN z → A (4 + s) 1 = rRoom z s) : ∃ A', x3_endTrack 0 A = some A' ∧ (∀ d, (d < 4 ∨ 16 ≤ d) → A' d = A d) ∧ ∀ s, s < 12 → A' (4 + s) 0 = A (4 + s) 0 ∧ A' (4 + s) 2 = A (4 + s) 2 ∧ A' (4 + s) 5 = A (4 + s) 5 ∧ (s < rN z → A' (4 + s) 1 = rRoom z s ∧ A' (4 + s) 3 = nI (rAb z s) ∧ A' (4 + s) 4 = nI (rBe z s)) := by
  have hn := hi.n
  have he : ∀ s, s < rN z → rEnd z s → rPs z s := fun s hs h => by
    rcases h with rfl | q
    · exact hi.first
    · have := hi.last; rwa [show rN z - 1 = s by omega] at this
  have r1 : ∀ s, s < rN z → up2 (up2 A (0 + 4 + 0) 1 4) (0 + 4 + (rN z - 1)) 1 4 (4 + s) 1 = rRoom z s := fun s hs => by
    by_cases e1 : s = rN z - 1
    · subst e1
      rw [show 0 + 4 + (rN z - 1) = 4 + (rN z - 1) by omega, up2_same]
      unfold rRoom; rw [if_pos (Or.inr (by omega))]
    · rw [up2_other (by omega)]
      by_cases e0 : s = 0
      · subst e0
        rw [show 0 + 4 + 0 = 4 + 0 by omega, up2_same]
        unfold rRoom; rw [if_pos (Or.inl rfl)]
      · rw [up2_other (by omega)]; exact h1 s hs e0 (by omega)
  have r3 : up2 (up2 A (0 + 4 + 0) 1 4) (0 + 4 + (rN z - 1)) 1 4 0 3 = nI (rN z) := by rw [up2_ne (Or.inl (by omega)), up2_ne (Or.inl (by omega))]; exact h3
  obtain ⟨A1, b1, b2, b3⟩ := cBelow hn r3 r1 he
  obtain ⟨A2, c1, c2, c3⟩ := cAbove hi (by rw [b2 0 3 (by omega)]; exact r3) (fun s hs => by rw [b2 _ _ (by omega)]; exact r1 s hs) he 11 mFu A1 (by decide) (by unfold mFu; decide) f34.rf (fun s h1 h2 => by omega)
  have hup : upN z 12 = rN z - 1 := by unfold upN; rw [if_neg (by omega)]
  rw [hup] at c1
  refine ⟨A2, ?_, fun d hd => ?_, fun s hs => ⟨?_, ?_, ?_, fun hsn => ⟨?_, c3 s hsn, ?_⟩⟩⟩
  · unfold x3_endTrack
    rw [show x3_segmentAt 0 0 A = some (if 0 < rN z then some (0 + 4 + 0) else none) from sAn h3 hn.2 (i := 0) (by decide), bs, if_pos (by omega), mOs, h3, show nI (rN z) - (1 : Int32) = nI (rN z - 1) from pk_sub (a := rN z) (b := 1) (by omega), sAn h3 hn.2 (by omega), bs, if_pos (by omega), mOs, mNm_e, mNm_e, b1, bs, show x3_endTrack_L91 0 mFu (nI (rN z - 1)) 11 A1 = some A2 from c1, bs]
  · funext j
    rw [c2 _ _ (by omega), b2 _ _ (by omega), up2_ne (Or.inl (by omega)), up2_ne (Or.inl (by omega))]
  · rw [c2 _ _ (by omega), b2 _ _ (by omega), up2_ne (Or.inr (by decide)), up2_ne (Or.inr (by decide))]
  · rw [c2 _ _ (by omega), b2 _ _ (by omega), up2_ne (Or.inr (by decide)), up2_ne (Or.inr (by decide))]
  · rw [c2 _ _ (by omega), b2 _ _ (by omega), up2_ne (Or.inr (by decide)), up2_ne (Or.inr (by decide))]
  · rw [c2 _ _ (by omega), b2 _ _ (by omega)]; exact r1 s hsn
  · rw [c2 _ _ (by omega)]; exact b3 s hsn
