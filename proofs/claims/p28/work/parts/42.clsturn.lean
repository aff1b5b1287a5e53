/-! the class's turn -/
theorem ite10 {α : Type} {P : Prop} [Decidable P] (A B : α) : (if (if P then (1 : Int32) else 0) = 0 then A else B) = if P then B else A := by
  by_cases h : P
  · rw [if_pos h, if_pos h, if_neg one_ne]
  · rw [if_neg h, if_neg h, if_pos rfl]
def fr (c m : Nat) (G G' : mM) : Prop := ∀ d, (d < c ∨ c + 16 + m ≤ d) → G' d = G d
theorem fr.rf {c m : Nat} {G : mM} : fr c m G G := fun _ _ => rfl
theorem fr.tr {c m : Nat} {G G' G'' : mM} (h : fr c m G G') (h2 : fr c m G' G'') : fr c m G G'' := fun d hd => (h2 d hd).trans (h d hd)
theorem fr.up {c m d k : Nat} {v : Int32} (G : mM) (hd : c ≤ d ∧ d < c + 16 + m) : fr c m G (up2 G d k v) := fun e he => up2_other (by omega)
def kp (c : Nat) (G G' : mM) : Prop := (∀ t, t < 4 → G' (c + 16 + t) 9 = G (c + 16 + t) 9) ∧ G' c 10 = G c 10
theorem kp.rf {c : Nat} {G : mM} : kp c G G := ⟨fun _ _ => rfl, rfl⟩
theorem kp.tr {c : Nat} {G G' G'' : mM} (h : kp c G G') (h2 : kp c G' G'') : kp c G G'' := ⟨fun t ht => (h2.1 t ht).trans (h.1 t ht), h2.2.trans h.2⟩
theorem kp.up {c d k : Nat} {v : Int32} (G : mM) (hk : k < 9) : kp c G (up2 G d k v) := ⟨fun t _ => up2_ne (Or.inr (by omega)), up2_ne (Or.inr (by omega))⟩
def stp (c m : Nat) (G G' : mM) : Prop := fr c m G G' ∧ kp c G G'
theorem stp.rf {c m : Nat} {G : mM} : stp c m G G := ⟨fr.rf, kp.rf⟩
theorem stp.tr {c m : Nat} {G G' G'' : mM} (h : stp c m G G') (h2 : stp c m G' G'') : stp c m G G'' := ⟨h.1.tr h2.1, h.2.tr h2.2⟩
theorem stp.up {c m d k : Nat} {v : Int32} (G : mM) (hd : c ≤ d ∧ d < c + 16 + m) (hk : k < 9) : stp c m G (up2 G d k v) := ⟨fr.up G hd, kp.up G hk⟩
theorem cUnl {G : mM} {c : Nat} {z : mR} (h : Rs G c z) (hi : rInv z) {t : Nat} (ht : t < rM z) : ∃ G', x3_unloadTrain c (c + 16 + t) G = some G' ∧ Rs G' c (rUnl z t) ∧ stp c (rM z) G G' := by
  have hm := hi.m
  unfold x3_unloadTrain rUnl
  simp only [mNm_e]
  have e2 : G c 7 + G (c + 16 + t) 2 = z 80 + z (36 + 9 * t + 2) := by rw [h.1.2.2.2.2.1, h.tr ht (by decide)]
  rw [e2]
  have i1 := rInv_sc (v := z 80 + z (36 + 9 * t + 2)) hi (j := 80) (Or.inr (by decide))
  have h1 := Rs_deliv (v := z 80 + z (36 + 9 * t + 2)) h hi
  have m1 : t < rM (upd z 80 (z 80 + z (36 + 9 * t + 2))) := by rw [rM_upd (by decide)]; exact ht
  have i2 := rInv_put i1 (t := t) (k := 2) (v := 0) m1 (by decide) (rOk_2 (by decide))
  have h2 := Rs_tr (k := 2) (v := 0) h1 i1 m1 (by decide) (rOk_2 (by decide))
  have m2 := m1
  rw [← rM_upd (z := upd z 80 (z 80 + z (36 + 9 * t + 2))) (j := 36 + 9 * t + 2) (v := 0) (by omega)] at m2
  have i3 := rInv_put i2 (t := t) (k := 4) (v := 0) m2 (by decide) (rOk_4 (Or.inl rfl))
  have h3 := Rs_tr (k := 4) (v := 0) h2 i2 m2 (by decide) (rOk_4 (Or.inl rfl))
  have m3 := m2
  rw [← rM_upd (j := 36 + 9 * t + 4) (v := 0) (by omega)] at m3
  have e5 : up2 (up2 (up2 G c 7 (z 80 + z (36 + 9 * t + 2))) (c + 16 + t) 2 0) (c + 16 + t) 4 0 (c + 16 + t) 0 = z (36 + 9 * t + 0) := by
    rw [up2_ne (Or.inr (by decide)), up2_ne (Or.inr (by decide)), up2_ne (Or.inr (by decide)), h.tr ht (by decide)]
  rw [e5]
  have i4 := rInv_put i3 (t := t) (k := 5) (v := z (36 + 9 * t + 0)) m3 (by decide) (rOk_n (by decide))
  have h4 := Rs_tr (k := 5) (v := z (36 + 9 * t + 0)) h3 i3 m3 (by decide) (rOk_n (by decide))
  have m4 := m3
  rw [← rM_upd (j := 36 + 9 * t + 5) (v := z (36 + 9 * t + 0)) (by omega)] at m4
  have e8 : up2 (up2 (up2 (up2 G c 7 (z 80 + z (36 + 9 * t + 2))) (c + 16 + t) 2 0) (c + 16 + t) 4 0) (c + 16 + t) 5 (z (36 + 9 * t + 0)) (c + 16 + t) 8 = z (36 + 9 * t + 8) := by
    rw [up2_ne (Or.inr (by decide)), up2_ne (Or.inr (by decide)), up2_ne (Or.inr (by decide)), up2_ne (Or.inr (by decide)), h.tr ht (by decide)]
  rw [e8]
  exact ⟨_, rfl, Rs_tr (k := 8) h4 i4 m4 (by decide) (rOk_n (by decide)), ((((stp.up G (by omega) (by decide)).tr (stp.up _ (by omega) (by decide))).tr (stp.up _ (by omega) (by decide))).tr (stp.up _ (by omega) (by decide))).tr (stp.up _ (by omega) (by decide))⟩
theorem cLoad {G : mM} {c : Nat} {z : mR} (h : Rs G c z) (hi : rInv z) {t : Nat} (ht : t < rM z) : ∃ G', x3_loadTrain c (c + 16 + t) G = some G' ∧ Rs G' c (rLoad z t) ∧ stp c (rM z) G G' := by
  have hm := hi.m
  have hb := rFullB hi ht
  unfold x3_loadTrain rLoad
  rw [x4_fullLoad, bs, h.tr ht (k := 0) (by decide), h.tr ht (k := 1) (by decide)]
  simp only [mNm_e]
  rw [up2_ne (c := c + 16 + t) (c' := c) (Or.inl (by omega)), h.1.2.2.1, up2_same]
  have i1 := rInv_sc (v := z 79 - z (36 + 9 * t + 0) * z (36 + 9 * t + 1)) hi (j := 79) (Or.inr (by decide))
  have i1' := rInv_put hi ht (k := 2) (v := z (36 + 9 * t + 0) * z (36 + 9 * t + 1)) (by decide) (rOk_2 hb)
  have h1 := Rs_tr (k := 2) (v := z (36 + 9 * t + 0) * z (36 + 9 * t + 1)) h hi ht (by decide) (rOk_2 hb)
  have h2 := Rs_stock (v := z 79 - z (36 + 9 * t + 0) * z (36 + 9 * t + 1)) h1 i1'
  have i2 := rInv_sc (v := z 79 - z (36 + 9 * t + 0) * z (36 + 9 * t + 1)) i1' (j := 79) (Or.inr (by decide))
  have m2 : t < rM (upd (upd z (36 + 9 * t + 2) (z (36 + 9 * t + 0) * z (36 + 9 * t + 1))) 79 (z 79 - z (36 + 9 * t + 0) * z (36 + 9 * t + 1))) := by rw [rM_upd (by decide), rM_upd (by omega)]; exact ht
  have i3 := rInv_put i2 (t := t) (k := 4) (v := 1) m2 (by decide) (rOk_4 (Or.inr rfl))
  have h3 := Rs_tr (k := 4) (v := 1) h2 i2 m2 (by decide) (rOk_4 (Or.inr rfl))
  have m3 := m2
  rw [← rM_upd (j := 36 + 9 * t + 4) (v := 1) (by omega)] at m3
  have e5 : up2 (up2 (up2 G (c + 16 + t) 2 (z (36 + 9 * t + 0) * z (36 + 9 * t + 1))) c 5 (z 79 - z (36 + 9 * t + 0) * z (36 + 9 * t + 1))) (c + 16 + t) 4 1 (c + 16 + t) 0 = z (36 + 9 * t + 0) := by
    rw [up2_ne (Or.inr (by decide)), up2_ne (Or.inr (by decide)), up2_ne (Or.inr (by decide)), h.tr ht (by decide)]
  rw [e5, upd_swap z _ _ (show 79 ≠ 36 + 9 * t + 2 by omega)]
  exact ⟨_, rfl, Rs_tr (k := 5) h3 i3 m3 (by decide) (rOk_n (by decide)), (((stp.up G (by omega) (by decide)).tr (stp.up _ (by omega) (by decide))).tr (stp.up _ (by omega) (by decide))).tr (stp.up _ (by omega) (by decide))⟩
theorem cMove {G : mM} {c : Nat} {z : mR} (h : Rs G c z) (hi : rInv z) {t q : Nat} (ht : t < rM z) (hq : q < rN z) (hbey : (if z (36 + 9 * t + 4) = 0 then nI (rPl z t) - 1 else nI (rPl z t + 1)) = nI q) : ∃ G', x3_moveTrain c (c + 16 + t) G = some G' ∧ Rs G' c (rMove z t q) ∧ stp c (rM z) G G' := by
  have hm := hi.m
  have hn := hi.n
  unfold x3_moveTrain rMove
  rw [cBey h hi ht, bs, hbey, sSeg h hi hq, bs, mOs, bs]
  simp only [mNm_e]
  rw [up2_ne (c := c + 16 + t) (c' := c + 4 + q) (Or.inl (by omega)), (h.seg hq).2.2.1]
  have i1 := rInv_put hi ht (k := 3) (v := nI q) (by decide) (rOk_3 hq)
  have h1 := Rs_tr (k := 3) (v := nI q) h hi ht (by decide) (rOk_3 hq)
  have m1 : t < rM (upd z (36 + 9 * t + 3) (nI q)) := by rw [rM_upd (by omega)]; exact ht
  exact ⟨_, rfl, Rs_tr (k := 5) h1 i1 m1 (by decide) (rOk_n (by decide)), (stp.up G (by omega) (by decide)).tr (stp.up _ (by omega) (by decide))⟩
theorem cTurn {G : mM} {c : Nat} {z : mR} (h : Rs G c z) (hi : rInv z) {t : Nat} (ht : t < rM z) : ∃ G', x3_takeTurn c (c + 16 + t) G = some G' ∧ Rs G' c (rTurn z t) ∧ stp c (rM z) G G' := by
  have hm := hi.m
  unfold x3_takeTurn rTurn
  rw [h.tr ht (k := 5) (by decide)]
  by_cases h1 : z (36 + 9 * t + 5) ≤ 0
  · rw [if_pos h1, if_pos h1, cReason h hi ht, bs, mNm_e, up2_same]
    have i2 := rInv_put hi ht (k := 6) (v := rReason z t) (by decide) (rOk_n (by decide))
    have h2 := Rs_tr (k := 6) (v := rReason z t) h hi ht (by decide) (rOk_n (by decide))
    have m2 : t < rM (upd z (36 + 9 * t + 6) (rReason z t)) := by rw [rM_upd (by omega)]; exact ht
    have s2 : stp c (rM z) G (up2 G (c + 16 + t) 6 (rReason z t)) := stp.up G (by omega) (by decide)
    by_cases hr : rReason z t = 0
    · rw [if_pos hr, if_pos hr]
      rw [hr] at i2 h2 m2 s2 ⊢
      have em : rM (upd z (36 + 9 * t + 6) 0) = rM z := rM_upd (by omega)
      rw [cToUn h2 i2 m2, bs, ite10]
      obtain ⟨-, -, -, ⟨hp, ep⟩, hu⟩ := i2.tr m2
      unfold rGo
      have hn := i2.n
      by_cases hu1 : upd z (36 + 9 * t + 6) 0 (36 + 9 * t + 4) = 1
      · rw [if_pos hu1]
        by_cases he : rPl (upd z (36 + 9 * t + 6) 0) t + 1 = rN (upd z (36 + 9 * t + 6) 0)
        · rw [if_pos he, if_pos ⟨hu1, he⟩]
          obtain ⟨G', a, b, d⟩ := cUnl h2 i2 m2
          rw [em] at d
          rw [a, bs]
          exact ⟨G', rfl, b, s2.tr d⟩
        · rw [if_neg he, if_neg (fun q => he q.2), cToLo h2 i2 m2, bs, ite10, if_neg (fun q => by rw [hu1] at q; exact absurd q.1 (by decide))]
          obtain ⟨G', a, b, d⟩ := cMove h2 i2 m2 (q := rPl (upd z (36 + 9 * t + 6) 0) t + 1) (by omega) (by rw [if_neg (by rw [hu1]; decide)])
          rw [em] at d
          rw [a, bs]
          exact ⟨G', rfl, b, s2.tr d⟩
      · have hu0 : upd z (36 + 9 * t + 6) 0 (36 + 9 * t + 4) = 0 := hu.resolve_right hu1
        rw [if_neg hu1, if_neg (fun q => hu1 q.1), cToLo h2 i2 m2, bs, ite10]
        by_cases he : rPl (upd z (36 + 9 * t + 6) 0) t = 0
        · rw [if_pos he, if_pos ⟨hu0, he⟩]
          obtain ⟨G', a, b, d⟩ := cLoad h2 i2 m2
          rw [em] at d
          rw [a, bs]
          exact ⟨G', rfl, b, s2.tr d⟩
        · rw [if_neg he, if_neg (fun q => he q.2)]
          obtain ⟨G', a, b, d⟩ := cMove h2 i2 m2 (q := rPl (upd z (36 + 9 * t + 6) 0) t - 1) (by omega) (by rw [if_pos hu0]; exact pk_sub (b := 1) (by omega))
          rw [em] at d
          rw [a, bs]
          exact ⟨G', rfl, b, s2.tr d⟩
    · rw [if_neg hr, if_neg hr, mNm_e, up2_ne (k := 6) (k' := 7) (Or.inr (by decide)), h.tr ht (k := 7) (by decide)]
      exact ⟨_, rfl, Rs_tr (k := 7) h2 i2 m2 (by decide) (rOk_n (by decide)), s2.tr (stp.up _ (by omega) (by decide))⟩
  · rw [if_neg h1, if_neg h1, mNm_e, mNm_e, upd_swap z _ _ (show 36 + 9 * t + 6 ≠ 36 + 9 * t + 5 by omega)]
    have i2 := rInv_put hi ht (k := 5) (v := z (36 + 9 * t + 5) - 1) (by decide) (rOk_n (by decide))
    have h2 := Rs_tr (k := 5) (v := z (36 + 9 * t + 5) - 1) h hi ht (by decide) (rOk_n (by decide))
    have m2 : t < rM (upd z (36 + 9 * t + 5) (z (36 + 9 * t + 5) - 1)) := by rw [rM_upd (by omega)]; exact ht
    exact ⟨_, rfl, Rs_tr (k := 6) h2 i2 m2 (by decide) (rOk_n (by decide)), (stp.up G (by omega) (by decide)).tr (stp.up _ (by omega) (by decide))⟩
