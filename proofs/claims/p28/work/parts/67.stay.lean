/-! MORE THAT STAYS: peat adds up; what was delivered only grows -/
def rAc (z : mR) : Prop := z 78 = z 79 + rPeat z + z 80 + z 81
def rX (z : mR) : Prop := rEx z ∧ rAc z
theorem sumI_split {f : Nat → Int32} : ∀ {n t : Nat}, t < n → ∃ p, sumI f n = p + f t ∧ ∀ g : Nat → Int32, (∀ i, i < n → i ≠ t → g i = f i) → sumI g n = p + g t
  | 0, _, h => absurd h (by omega)
  | n + 1, t, h => by
    by_cases e : t = n
    · subst e
      exact ⟨sumI f t, rfl, fun g hg => by rw [sumI, sumI_cong (fun i hi => hg i (by omega) (by omega))]⟩
    · obtain ⟨p, h1, h2⟩ := sumI_split (f := f) (n := n) (t := t) (by omega)
      refine ⟨p + f n, ?_, fun g hg => ?_⟩
      · rw [sumI, h1, Int32.add_assoc, Int32.add_comm (f t), Int32.add_assoc]
      · rw [sumI, h2 g (fun i hi hn => hg i (by omega) hn), hg n (by omega) (fun q => e q.symm), Int32.add_assoc, Int32.add_comm (g t), Int32.add_assoc]
theorem rX_upd {z : mR} (h : rX z) (hm : rM z ≤ 4) {j : Nat} {v : Int32} (hj : (36 ≤ j ∧ j < 72 ∧ (j - 36) % 9 ≠ 2 ∧ (j - 36) % 9 ≠ 4) ∨ j < 36 ∨ (72 ≤ j ∧ j < 78 ∧ j ≠ 73)) : rX (upd z j v) := by
  have eM : rM (upd z j v) = rM z := rM_upd (by omega)
  refine ⟨fun t ht hu => ?_, ?_⟩
  · rw [eM] at ht
    rw [upd_n (by omega)] at hu ⊢
    exact h.1 t ht hu
  · have h2 := h.2
    unfold rAc rPeat at h2 ⊢
    rw [eM, upd_n (by omega), upd_n (by omega), upd_n (by omega), upd_n (by omega), sumI_cong (g := fun t => z (36 + 9 * t + 2)) (fun i hi => upd_n (by omega))]
    exact h2
theorem rUnl_X {z : mR} (h : rX z) (hm : rM z ≤ 4) {t : Nat} (ht : t < rM z) : rX (rUnl z t) := by
  have eM : rM (rUnl z t) = rM z := by unfold rUnl; rw [rM_upd (by omega), rM_upd (by omega), rM_upd (by omega), rM_upd (by omega), rM_upd (by omega)]
  have e2 : ∀ i, i < rM z → rUnl z t (36 + 9 * i + 2) = if i = t then 0 else z (36 + 9 * i + 2) := fun i hi => by
    unfold rUnl
    by_cases e : i = t
    · subst e
      rw [if_pos rfl, upd_n (by omega), upd_n (by omega), upd_n (by omega), upd_s]
    · rw [if_neg e, upd_n (by omega), upd_n (by omega), upd_n (by omega), upd_n (by omega), upd_n (by omega)]
  have e4 : ∀ i, i < rM z → i ≠ t → rUnl z t (36 + 9 * i + 4) = z (36 + 9 * i + 4) := fun i hi e => by
    unfold rUnl
    rw [upd_n (by omega), upd_n (by omega), upd_n (by omega), upd_n (by omega), upd_n (by omega)]
  refine ⟨fun i hi hu => ?_, ?_⟩
  · rw [eM] at hi
    rw [e2 i hi]
    by_cases e : i = t
    · rw [if_pos e]
    · rw [if_neg e]; exact h.1 i hi (by rw [← e4 i hi e]; exact hu)
  · obtain ⟨p, h1, h2⟩ := sumI_split (f := fun t => z (36 + 9 * t + 2)) ht
    have h3 := h2 (fun i => rUnl z t (36 + 9 * i + 2)) (fun i hi hn => by show rUnl z t (36 + 9 * i + 2) = _; rw [e2 i hi, if_neg hn])
    have h4 := h.2
    have a78 : rUnl z t 78 = z 78 := by unfold rUnl; rw [upd_n (by omega), upd_n (by omega), upd_n (by omega), upd_n (by omega), upd_n (by omega)]
    have a79 : rUnl z t 79 = z 79 := by unfold rUnl; rw [upd_n (by omega), upd_n (by omega), upd_n (by omega), upd_n (by omega), upd_n (by omega)]
    have a81 : rUnl z t 81 = z 81 := by unfold rUnl; rw [upd_n (by omega), upd_n (by omega), upd_n (by omega), upd_n (by omega), upd_n (by omega)]
    have a80 : rUnl z t 80 = z 80 + z (36 + 9 * t + 2) := by unfold rUnl; rw [upd_n (by omega), upd_n (by omega), upd_n (by omega), upd_n (by omega), upd_s]
    unfold rAc rPeat at h4 ⊢
    rw [eM, h3, a78, a79, a80, a81, h4, h1, e2 t ht, if_pos rfl]
    ac_nf
theorem rLoad_X {z : mR} (h : rX z) (hm : rM z ≤ 4) {t : Nat} (ht : t < rM z) (h0 : z (36 + 9 * t + 4) = 0) : rX (rLoad z t) := by
  have eM : rM (rLoad z t) = rM z := by unfold rLoad; rw [rM_upd (by omega), rM_upd (by omega), rM_upd (by omega), rM_upd (by omega)]
  have e2 : ∀ i, i < rM z → rLoad z t (36 + 9 * i + 2) = if i = t then z (36 + 9 * t + 0) * z (36 + 9 * t + 1) else z (36 + 9 * i + 2) := fun i hi => by
    unfold rLoad
    by_cases e : i = t
    · subst e
      rw [if_pos rfl, upd_n (by omega), upd_n (by omega), upd_s]
    · rw [if_neg e, upd_n (by omega), upd_n (by omega), upd_n (by omega), upd_n (by omega)]
  have e4 : ∀ i, i < rM z → rLoad z t (36 + 9 * i + 4) = if i = t then 1 else z (36 + 9 * i + 4) := fun i hi => by
    unfold rLoad
    by_cases e : i = t
    · subst e
      rw [if_pos rfl, upd_n (by omega), upd_s]
    · rw [if_neg e, upd_n (by omega), upd_n (by omega), upd_n (by omega), upd_n (by omega)]
  refine ⟨fun i hi hu => ?_, ?_⟩
  · rw [eM] at hi
    rw [e4 i hi] at hu
    rw [e2 i hi]
    by_cases e : i = t
    · rw [if_pos e] at hu; exact absurd hu (by decide)
    · rw [if_neg e] at hu ⊢; exact h.1 i hi hu
  · obtain ⟨p, h1, h2⟩ := sumI_split (f := fun t => z (36 + 9 * t + 2)) ht
    have h3 := h2 (fun i => rLoad z t (36 + 9 * i + 2)) (fun i hi hn => by show rLoad z t (36 + 9 * i + 2) = _; rw [e2 i hi, if_neg hn])
    have h4 := h.2
    have a78 : rLoad z t 78 = z 78 := by unfold rLoad; rw [upd_n (by omega), upd_n (by omega), upd_n (by omega), upd_n (by omega)]
    have a79 : rLoad z t 79 = z 79 - z (36 + 9 * t + 0) * z (36 + 9 * t + 1) := by unfold rLoad; rw [upd_n (by omega), upd_n (by omega), upd_n (by omega), upd_s]
    have a81 : rLoad z t 81 = z 81 := by unfold rLoad; rw [upd_n (by omega), upd_n (by omega), upd_n (by omega), upd_n (by omega)]
    have a80 : rLoad z t 80 = z 80 := by unfold rLoad; rw [upd_n (by omega), upd_n (by omega), upd_n (by omega), upd_n (by omega)]
    unfold rAc rPeat at h4 ⊢
    rw [eM, h3, a78, a79, a80, a81, h4, h1, e2 t ht, if_pos rfl, h.1 t ht h0]
    generalize z (36 + 9 * t + 0) * z (36 + 9 * t + 1) = w
    rw [Int32.add_zero, Int32.sub_eq_add_neg]
    have : z 79 + -w + (p + w) = z 79 + p := by
      rw [Int32.add_assoc, Int32.add_comm p w, ← Int32.add_assoc (-w), Int32.add_left_neg, Int32.zero_add]
    rw [this]
theorem rMove_X {z : mR} (h : rX z) (hm : rM z ≤ 4) {t q : Nat} (ht : t < rM z) : rX (rMove z t q) := by
  unfold rMove
  exact rX_upd (rX_upd h hm (by omega)) (by rw [rM_upd (by omega)]; exact hm) (by omega)
theorem rGo_X {z : mR} (hi : rInv z) (h : rX z) {t : Nat} (ht : t < rM z) : rX (rGo z t) := by
  have hm := hi.m
  obtain ⟨-, -, -, -, hu⟩ := hi.tr ht
  unfold rGo
  by_cases h1 : z (36 + 9 * t + 4) = 1
  · rw [if_pos h1]
    by_cases h2 : rPl z t + 1 = rN z
    · rw [if_pos h2]; exact rUnl_X h hm ht
    · rw [if_neg h2]; exact rMove_X h hm ht
  · rw [if_neg h1]
    by_cases h2 : rPl z t = 0
    · rw [if_pos h2]; exact rLoad_X h hm ht (hu.resolve_right h1)
    · rw [if_neg h2]; exact rMove_X h hm ht
theorem rTurn_X {z : mR} (hi : rInv z) (h : rX z) {t : Nat} (ht : t < rM z) : rX (rTurn z t) := by
  have hm := hi.m
  unfold rTurn
  split
  · split
    · exact rGo_X (rInv_put hi ht (by decide) (rOk_n (by decide))) (rX_upd h hm (by omega)) (by rw [rM_upd (by omega)]; exact ht)
    · exact rX_upd (rX_upd h hm (by omega)) (by rw [rM_upd (by omega)]; exact hm) (by omega)
  · exact rX_upd (rX_upd h hm (by omega)) (by rw [rM_upd (by omega)]; exact hm) (by omega)
theorem rRnd_X {z0 z : mR} {b : Prop} [Decidable b] (hi : rInv z) (h : rX z) : ∀ {k : Nat}, k ≤ rM z → rX (rRnd z0 b z k)
  | 0, _ => h
  | k + 1, hk => by
    have hm := hi.m
    unfold rRnd
    split
    · exact rTurn_X (rRnd_inv hi (by omega)) (rRnd_X hi h (by omega)) (by rw [(rRnd_M (by omega)).1]; omega)
    · exact rRnd_X hi h (by omega)
theorem rSink_X {z : mR} (hi : rInv z) (h : rX z) : rX (rSink z) := by
  have hm := hi.m
  have hn := hi.n
  unfold rSink
  have eM := (rSinkN_N (z := z) (n := rN z) (by omega)).2
  refine ⟨fun t ht hu => ?_, ?_⟩
  · rw [eM] at ht
    rw [rSinkN_ge (by omega)] at hu ⊢
    exact h.1 t ht hu
  · have h2 := h.2
    unfold rAc rPeat at h2 ⊢
    rw [eM, rSinkN_ge (by omega), rSinkN_ge (by omega), rSinkN_ge (by omega), rSinkN_ge (by omega), sumI_cong (g := fun t => z (36 + 9 * t + 2)) (fun i hi => rSinkN_ge (by omega))]
    exact h2
theorem rTick_X {z : mR} (hi : rInv z) (h : rX z) : rX (rTick z) := by
  have hm := hi.m
  have i1 := rRnd_inv (z0 := z) (b := True) hi (k := rM z) (Nat.le_refl _)
  have m1 : rM (rRnd z True z (rM z)) = rM z := (rRnd_M hm).1
  have i2 := rRnd_inv (z0 := z) (b := False) i1 (k := rM z) (by rw [m1]; exact Nat.le_refl _)
  have x1 := rRnd_X (z0 := z) (b := True) hi h (k := rM z) (Nat.le_refl _)
  have x2 := rRnd_X (z0 := z) (b := False) i1 x1 (k := rM z) (by rw [m1]; exact Nat.le_refl _)
  unfold rTick
  exact rX_upd (rSink_X i2 x2) (rSinkN_inv i2 (Nat.le_refl _)).m (Or.inr (Or.inr (by decide)))
theorem rTicks_X {z : mR} (hi : rInv z) (h : rX z) : ∀ n, rX (rTicks z n)
  | 0 => h
  | n + 1 => rTick_X (rTicks_inv hi n) (rTicks_X hi h n)
/-- what was delivered only grows -/
theorem rTurn_80m {z : mR} (hi : rInv z) {t : Nat} (ht : t < rM z) (h : 0 ≤ (z 80).toInt ∧ (z 80).toInt ≤ 2000000000) : (z 80).toInt ≤ (rTurn z t 80).toInt := by
  have hm := hi.m
  obtain ⟨-, -, ⟨b1, b2⟩, -⟩ := hi.tr ht
  have key : ∀ w : mR, w 80 = z 80 → w (36 + 9 * t + 2) = z (36 + 9 * t + 2) → (z 80).toInt ≤ (rGo w t 80).toInt := by
    intro w e1 e2
    unfold rGo rUnl rLoad rMove
    repeat' split
    · rw [upd_n (by omega), upd_n (by omega), upd_n (by omega), upd_n (by omega), upd_s, e1, e2, jA_add (by omega) (by omega)]
      omega
    · rw [upd_n (by omega), upd_n (by omega), e1]; omega
    · rw [upd_n (by omega), upd_n (by omega), upd_n (by omega), upd_n (by omega), e1]; omega
    · rw [upd_n (by omega), upd_n (by omega), e1]; omega
  unfold rTurn
  split
  · split
    · exact key _ (upd_n (by omega)) (upd_n (by omega))
    · rw [upd_n (by omega), upd_n (by omega)]; omega
  · rw [upd_n (by omega), upd_n (by omega)]; omega
theorem rRnd_80m {z0 z : mR} {b : Prop} [Decidable b] (hi : rInv z) (h0 : 0 ≤ (z 80).toInt ∧ (z 80).toInt ≤ 900000000) : ∀ {k : Nat}, k ≤ rM z → (z 80).toInt ≤ (rRnd z0 b z k 80).toInt
  | 0, _ => by unfold rRnd; omega
  | k + 1, h => by
    have hm := hi.m
    have ih := rRnd_80m (z0 := z0) (b := b) hi h0 (k := k) (by omega)
    have hb := rRnd_80 (z0 := z0) (b := b) hi (B := 900000000) (by decide) h0 (k := k) (by omega)
    unfold rRnd
    split
    · have := rTurn_80m (rRnd_inv (z0 := z0) (b := b) hi (k := k) (by omega)) (t := k) (by rw [(rRnd_M (by omega)).1]; omega) (by omega)
      omega
    · omega
theorem rTick_80m {z : mR} (hi : rInv z) (h : 0 ≤ (z 80).toInt ∧ (z 80).toInt ≤ 800000000) : (z 80).toInt ≤ (rTick z 80).toInt := by
  have hm := hi.m
  have i1 := rRnd_inv (z0 := z) (b := True) hi (k := rM z) (Nat.le_refl _)
  have m1 : rM (rRnd z True z (rM z)) = rM z := (rRnd_M hm).1
  have i2 := rRnd_inv (z0 := z) (b := False) i1 (k := rM z) (by rw [m1]; exact Nat.le_refl _)
  have a1 := rRnd_80m (z0 := z) (b := True) hi (by omega) (k := rM z) (Nat.le_refl _)
  have b1 := rRnd_80 (z0 := z) (b := True) hi (B := 800000000) (by decide) h (k := rM z) (Nat.le_refl _)
  have a2 := rRnd_80m (z0 := z) (b := False) i1 (by omega) (k := rM z) (by rw [m1]; exact Nat.le_refl _)
  unfold rTick
  have hn := i2.n
  rw [upd_n (by decide)]
  unfold rSink
  rw [rSinkN_ge (by omega)]
  omega
theorem rTicks_80m {z : mR} (hi : rInv z) (h : 0 ≤ (z 80).toInt ∧ (z 80).toInt ≤ 700000000) : ∀ n : Nat, n ≤ 10000 → (z 80).toInt ≤ (rTicks z n 80).toInt
  | 0, _ => Int.le_refl _
  | n + 1, hn => by
    have h1 := rTicks_80m hi h n (by omega)
    have h2 := rTicks_80 hi (B := 700000000) (by decide) h n (by omega)
    have := rTick_80m (rTicks_inv hi n) (by omega)
    show (z 80).toInt ≤ (rTick (rTicks z n) 80).toInt
    omega
