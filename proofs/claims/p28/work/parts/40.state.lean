/-! THE CLASS's State against a row -/
theorem rRoom_cong {z w : mR} (h72 : w 72 = z 72) (hs : ∀ j, j < 36 → j % 3 = 1 → w j = z j) {s : Nat} (h : s < 12) : rRoom w s = rRoom z s := by
  unfold rRoom rEnd rPs rN
  rw [h72, hs (3 * s + 1) (by omega) (by omega)]
theorem rUp_cong {z w : mR} (hs : ∀ j, j < 36 → j % 3 = 1 → w j = z j) (hz : rPs z 11 ∨ True) : ∀ k s, s + k ≤ 12 → rUp w k s = rUp z k s
  | 0, _, _ => rfl
  | k + 1, s, h => by
    unfold rUp rPs
    rw [hs (3 * s + 1) (by omega) (by omega), rUp_cong hs hz k (s + 1) (by omega)]
theorem rDn_cong {z w : mR} (hs : ∀ j, j < 36 → j % 3 = 1 → w j = z j) : ∀ s, s < 12 → rDn w s = rDn z s
  | 0, _ => rfl
  | s + 1, h => by
    unfold rDn rPs
    rw [hs (3 * (s + 1) + 1) (by omega) (by omega), rDn_cong hs s (by omega)]
/-- the fuel of the search doesn't matter once it reaches the last one -/
theorem rUp_fuel {z : mR} (hi : rInv z) : ∀ k k' s, s < rN z → rN z - 1 - s ≤ k → rN z - 1 - s ≤ k' → rUp z k s = rUp z k' s
  | 0, 0, _, _, _, _ => rfl
  | 0, k' + 1, s, hs, hk, _ => by
    have e : s = rN z - 1 := by omega
    unfold rUp
    rw [if_pos (show rPs z s by rw [e]; exact hi.last)]
  | k + 1, 0, s, hs, _, hk => by
    have e : s = rN z - 1 := by omega
    unfold rUp
    rw [if_pos (show rPs z s by rw [e]; exact hi.last)]
  | k + 1, k' + 1, s, hs, h1, h2 => by
    unfold rUp
    by_cases h : rPs z s
    · rw [if_pos h, if_pos h]
    · have h3 : s ≠ rN z - 1 := fun e => h (by rw [e]; exact hi.last)
      rw [if_neg h, if_neg h]
      exact rUp_fuel hi k k' (s + 1) (by omega) (by omega) (by omega)
theorem rInv_cong {z w : mR} (hi : rInv z) (h72 : w 72 = z 72) (hs : ∀ j, j < 36 → j % 3 = 1 → w j = z j) : rPs w 0 ∧ rPs w (rN z - 1) ∧ rN w = rN z := by
  have hn := hi.n
  refine ⟨?_, ?_, ?_⟩
  · show w 1 = 1
    rw [hs 1 (by decide) (by decide)]; exact hi.first
  · show w (3 * (rN z - 1) + 1) = 1
    rw [hs _ (by omega) (by omega)]; exact hi.last
  · unfold rN; rw [h72]
theorem rAb_cong {z w : mR} (hi : rInv z) (hw : rInv w) (h72 : w 72 = z 72) (hs : ∀ j, j < 36 → j % 3 = 1 → w j = z j) {s : Nat} (h : s < rN z) : rAb w s = rAb z s := by
  have hn := hi.n
  have eN : rN w = rN z := by unfold rN; rw [h72]
  unfold rAb
  rw [eN]
  by_cases h1 : s + 1 < rN z
  · rw [if_pos h1, if_pos h1, rUp_fuel hw 12 (rN z - 1 - (s + 1)) (s + 1) (by omega) (by omega) (by omega), rUp_fuel hi 12 (rN z - 1 - (s + 1)) (s + 1) (by omega) (by omega) (by omega), rUp_cong hs (Or.inr trivial) _ _ (by omega)]
  · rw [if_neg h1, if_neg h1]
theorem rBe_cong {z w : mR} (hs : ∀ j, j < 36 → j % 3 = 1 → w j = z j) {s : Nat} (h : s < 12) : rBe w s = rBe z s := by
  unfold rBe
  by_cases h1 : 0 < s
  · rw [if_pos h1, if_pos h1, rDn_cong hs _ (by omega)]
  · rw [if_neg h1, if_neg h1]
theorem Rs.n {G : mM} {c : Nat} {z : mR} (h : Rs G c z) (hi : rInv z) : G c 3 = nI (rN z) := h.1.1.trans hi.zn
theorem Rs.m {G : mM} {c : Nat} {z : mR} (h : Rs G c z) (hi : rInv z) : G c 4 = nI (rM z) := h.1.2.1.trans hi.zm
theorem Rs.seg {G : mM} {c : Nat} {z : mR} (h : Rs G c z) {s : Nat} (hs : s < rN z) : G (c + 4 + s) 0 = z (3 * s) ∧ G (c + 4 + s) 1 = rRoom z s ∧ G (c + 4 + s) 2 = z (3 * s + 2) ∧ G (c + 4 + s) 3 = nI (rAb z s) ∧ G (c + 4 + s) 4 = nI (rBe z s) := h.2.2.1 s hs
theorem Rs.bu {G : mM} {c : Nat} {z : mR} (h : Rs G c z) {s : Nat} (hs : s < 12) : G (c + 4 + s) 5 = 0 := h.2.2.2.1 s hs
theorem Rs.tr {G : mM} {c : Nat} {z : mR} (h : Rs G c z) {t : Nat} (ht : t < rM z) {k : Nat} (hk : k < 9) : G (c + 16 + t) k = z (36 + 9 * t + k) := h.2.2.2.2 t ht k hk
theorem Rs.set {G : mM} {c : Nat} {z : mR} (h : Rs G c z) : G (c + 3) 0 = z 75 ∧ G (c + 3) 1 = z 76 ∧ G (c + 3) 2 = z 77 := h.2.1
theorem Rs_stock {G : mM} {c : Nat} {z : mR} (h : Rs G c z) (hi : rInv z) {v : Int32} : Rs (up2 G c 5 v) c (upd z 79 v) := by
  have hn := hi.n
  have hm := hi.m
  have hw : rInv (upd z 79 v) := rInv_sc hi (by decide)
  have hN : rN (upd z 79 v) = rN z := rN_upd (by decide)
  have hM : rM (upd z 79 v) = rM z := rM_upd (by decide)
  refine ⟨⟨by rw [up2_ne (by omega), upd_n (by omega)]; exact h.1.1, by rw [up2_ne (by omega), upd_n (by omega)]; exact h.1.2.1, by rw [up2_same, upd_s], by rw [up2_ne (by omega), upd_n (by omega)]; exact h.1.2.2.2.1, by rw [up2_ne (by omega), upd_n (by omega)]; exact h.1.2.2.2.2.1, by rw [up2_ne (by omega), upd_n (by omega)]; exact h.1.2.2.2.2.2.1, by rw [up2_ne (by omega), upd_n (by omega)]; exact h.1.2.2.2.2.2.2⟩, ⟨?_, ?_, ?_⟩, fun s hs => ?_, fun s hs => ?_, fun t' ht' k' hk' => ?_⟩
  · rw [up2_ne (by omega), upd_n (by omega)]; exact h.set.1
  · rw [up2_ne (by omega), upd_n (by omega)]; exact h.set.2.1
  · rw [up2_ne (by omega), upd_n (by omega)]; exact h.set.2.2
  · rw [up2_ne (by omega), up2_ne (by omega), up2_ne (by omega), up2_ne (by omega), up2_ne (by omega)]
    rw [hN] at hs; rw [upd_n (by omega), upd_n (by omega), rRoom_cong (z := z) (upd_n (by omega)) (fun j hj _ => upd_n (by omega)) (by omega), rAb_cong hi hw (upd_n (by omega)) (fun j hj _ => upd_n (by omega)) hs, rBe_cong (z := z) (fun j hj _ => upd_n (by omega)) (by omega)]; exact h.seg hs
  · rw [up2_ne (by omega)]; exact h.bu hs
  · rw [hM] at ht'
    rw [up2_ne (by omega), upd_n (by omega)]; exact h.tr ht' hk'
theorem Rs_dug {G : mM} {c : Nat} {z : mR} (h : Rs G c z) (hi : rInv z) {v : Int32} : Rs (up2 G c 6 v) c (upd z 78 v) := by
  have hn := hi.n
  have hm := hi.m
  have hw : rInv (upd z 78 v) := rInv_sc hi (by decide)
  have hN : rN (upd z 78 v) = rN z := rN_upd (by decide)
  have hM : rM (upd z 78 v) = rM z := rM_upd (by decide)
  refine ⟨⟨by rw [up2_ne (by omega), upd_n (by omega)]; exact h.1.1, by rw [up2_ne (by omega), upd_n (by omega)]; exact h.1.2.1, by rw [up2_ne (by omega), upd_n (by omega)]; exact h.1.2.2.1, by rw [up2_same, upd_s], by rw [up2_ne (by omega), upd_n (by omega)]; exact h.1.2.2.2.2.1, by rw [up2_ne (by omega), upd_n (by omega)]; exact h.1.2.2.2.2.2.1, by rw [up2_ne (by omega), upd_n (by omega)]; exact h.1.2.2.2.2.2.2⟩, ⟨?_, ?_, ?_⟩, fun s hs => ?_, fun s hs => ?_, fun t' ht' k' hk' => ?_⟩
  · rw [up2_ne (by omega), upd_n (by omega)]; exact h.set.1
  · rw [up2_ne (by omega), upd_n (by omega)]; exact h.set.2.1
  · rw [up2_ne (by omega), upd_n (by omega)]; exact h.set.2.2
  · rw [up2_ne (by omega), up2_ne (by omega), up2_ne (by omega), up2_ne (by omega), up2_ne (by omega)]
    rw [hN] at hs; rw [upd_n (by omega), upd_n (by omega), rRoom_cong (z := z) (upd_n (by omega)) (fun j hj _ => upd_n (by omega)) (by omega), rAb_cong hi hw (upd_n (by omega)) (fun j hj _ => upd_n (by omega)) hs, rBe_cong (z := z) (fun j hj _ => upd_n (by omega)) (by omega)]; exact h.seg hs
  · rw [up2_ne (by omega)]; exact h.bu hs
  · rw [hM] at ht'
    rw [up2_ne (by omega), upd_n (by omega)]; exact h.tr ht' hk'
theorem Rs_deliv {G : mM} {c : Nat} {z : mR} (h : Rs G c z) (hi : rInv z) {v : Int32} : Rs (up2 G c 7 v) c (upd z 80 v) := by
  have hn := hi.n
  have hm := hi.m
  have hw : rInv (upd z 80 v) := rInv_sc hi (by decide)
  have hN : rN (upd z 80 v) = rN z := rN_upd (by decide)
  have hM : rM (upd z 80 v) = rM z := rM_upd (by decide)
  refine ⟨⟨by rw [up2_ne (by omega), upd_n (by omega)]; exact h.1.1, by rw [up2_ne (by omega), upd_n (by omega)]; exact h.1.2.1, by rw [up2_ne (by omega), upd_n (by omega)]; exact h.1.2.2.1, by rw [up2_ne (by omega), upd_n (by omega)]; exact h.1.2.2.2.1, by rw [up2_same, upd_s], by rw [up2_ne (by omega), upd_n (by omega)]; exact h.1.2.2.2.2.2.1, by rw [up2_ne (by omega), upd_n (by omega)]; exact h.1.2.2.2.2.2.2⟩, ⟨?_, ?_, ?_⟩, fun s hs => ?_, fun s hs => ?_, fun t' ht' k' hk' => ?_⟩
  · rw [up2_ne (by omega), upd_n (by omega)]; exact h.set.1
  · rw [up2_ne (by omega), upd_n (by omega)]; exact h.set.2.1
  · rw [up2_ne (by omega), upd_n (by omega)]; exact h.set.2.2
  · rw [up2_ne (by omega), up2_ne (by omega), up2_ne (by omega), up2_ne (by omega), up2_ne (by omega)]
    rw [hN] at hs; rw [upd_n (by omega), upd_n (by omega), rRoom_cong (z := z) (upd_n (by omega)) (fun j hj _ => upd_n (by omega)) (by omega), rAb_cong hi hw (upd_n (by omega)) (fun j hj _ => upd_n (by omega)) hs, rBe_cong (z := z) (fun j hj _ => upd_n (by omega)) (by omega)]; exact h.seg hs
  · rw [up2_ne (by omega)]; exact h.bu hs
  · rw [hM] at ht'
    rw [up2_ne (by omega), upd_n (by omega)]; exact h.tr ht' hk'
theorem Rs_lost {G : mM} {c : Nat} {z : mR} (h : Rs G c z) (hi : rInv z) {v : Int32} : Rs (up2 G c 8 v) c (upd z 81 v) := by
  have hn := hi.n
  have hm := hi.m
  have hw : rInv (upd z 81 v) := rInv_sc hi (by decide)
  have hN : rN (upd z 81 v) = rN z := rN_upd (by decide)
  have hM : rM (upd z 81 v) = rM z := rM_upd (by decide)
  refine ⟨⟨by rw [up2_ne (by omega), upd_n (by omega)]; exact h.1.1, by rw [up2_ne (by omega), upd_n (by omega)]; exact h.1.2.1, by rw [up2_ne (by omega), upd_n (by omega)]; exact h.1.2.2.1, by rw [up2_ne (by omega), upd_n (by omega)]; exact h.1.2.2.2.1, by rw [up2_ne (by omega), upd_n (by omega)]; exact h.1.2.2.2.2.1, by rw [up2_same, upd_s], by rw [up2_ne (by omega), upd_n (by omega)]; exact h.1.2.2.2.2.2.2⟩, ⟨?_, ?_, ?_⟩, fun s hs => ?_, fun s hs => ?_, fun t' ht' k' hk' => ?_⟩
  · rw [up2_ne (by omega), upd_n (by omega)]; exact h.set.1
  · rw [up2_ne (by omega), upd_n (by omega)]; exact h.set.2.1
  · rw [up2_ne (by omega), upd_n (by omega)]; exact h.set.2.2
  · rw [up2_ne (by omega), up2_ne (by omega), up2_ne (by omega), up2_ne (by omega), up2_ne (by omega)]
    rw [hN] at hs; rw [upd_n (by omega), upd_n (by omega), rRoom_cong (z := z) (upd_n (by omega)) (fun j hj _ => upd_n (by omega)) (by omega), rAb_cong hi hw (upd_n (by omega)) (fun j hj _ => upd_n (by omega)) hs, rBe_cong (z := z) (fun j hj _ => upd_n (by omega)) (by omega)]; exact h.seg hs
  · rw [up2_ne (by omega)]; exact h.bu hs
  · rw [hM] at ht'
    rw [up2_ne (by omega), upd_n (by omega)]; exact h.tr ht' hk'
theorem Rs_clock {G : mM} {c : Nat} {z : mR} (h : Rs G c z) (hi : rInv z) {v : Int32} : Rs (up2 G c 9 v) c (upd z 74 v) := by
  have hn := hi.n
  have hm := hi.m
  have hw : rInv (upd z 74 v) := rInv_sc hi (by decide)
  have hN : rN (upd z 74 v) = rN z := rN_upd (by decide)
  have hM : rM (upd z 74 v) = rM z := rM_upd (by decide)
  refine ⟨⟨by rw [up2_ne (by omega), upd_n (by omega)]; exact h.1.1, by rw [up2_ne (by omega), upd_n (by omega)]; exact h.1.2.1, by rw [up2_ne (by omega), upd_n (by omega)]; exact h.1.2.2.1, by rw [up2_ne (by omega), upd_n (by omega)]; exact h.1.2.2.2.1, by rw [up2_ne (by omega), upd_n (by omega)]; exact h.1.2.2.2.2.1, by rw [up2_ne (by omega), upd_n (by omega)]; exact h.1.2.2.2.2.2.1, by rw [up2_same, upd_s]⟩, ⟨?_, ?_, ?_⟩, fun s hs => ?_, fun s hs => ?_, fun t' ht' k' hk' => ?_⟩
  · rw [up2_ne (by omega), upd_n (by omega)]; exact h.set.1
  · rw [up2_ne (by omega), upd_n (by omega)]; exact h.set.2.1
  · rw [up2_ne (by omega), upd_n (by omega)]; exact h.set.2.2
  · rw [up2_ne (by omega), up2_ne (by omega), up2_ne (by omega), up2_ne (by omega), up2_ne (by omega)]
    rw [hN] at hs; rw [upd_n (by omega), upd_n (by omega), rRoom_cong (z := z) (upd_n (by omega)) (fun j hj _ => upd_n (by omega)) (by omega), rAb_cong hi hw (upd_n (by omega)) (fun j hj _ => upd_n (by omega)) hs, rBe_cong (z := z) (fun j hj _ => upd_n (by omega)) (by omega)]; exact h.seg hs
  · rw [up2_ne (by omega)]; exact h.bu hs
  · rw [hM] at ht'
    rw [up2_ne (by omega), upd_n (by omega)]; exact h.tr ht' hk'
theorem Rs_tr {G : mM} {c : Nat} {z : mR} (h : Rs G c z) (hi : rInv z) {t k : Nat} {v : Int32} (ht : t < rM z) (hk : k < 9) (hv : rOk z k v) : Rs (up2 G (c + 16 + t) k v) c (upd z (36 + 9 * t + k) v) := by
  have hn := hi.n
  have hm := hi.m
  have hw : rInv (upd z (36 + 9 * t + k) v) := rInv_put hi ht hk hv
  have hN : rN (upd z (36 + 9 * t + k) v) = rN z := rN_upd (by omega)
  have hM : rM (upd z (36 + 9 * t + k) v) = rM z := rM_upd (by omega)
  refine ⟨⟨by rw [up2_ne (by omega), upd_n (by omega)]; exact h.1.1, by rw [up2_ne (by omega), upd_n (by omega)]; exact h.1.2.1, by rw [up2_ne (by omega), upd_n (by omega)]; exact h.1.2.2.1, by rw [up2_ne (by omega), upd_n (by omega)]; exact h.1.2.2.2.1, by rw [up2_ne (by omega), upd_n (by omega)]; exact h.1.2.2.2.2.1, by rw [up2_ne (by omega), upd_n (by omega)]; exact h.1.2.2.2.2.2.1, by rw [up2_ne (by omega), upd_n (by omega)]; exact h.1.2.2.2.2.2.2⟩, ⟨?_, ?_, ?_⟩, fun s hs => ?_, fun s hs => ?_, fun t' ht' k' hk' => ?_⟩
  · rw [up2_ne (by omega), upd_n (by omega)]; exact h.set.1
  · rw [up2_ne (by omega), upd_n (by omega)]; exact h.set.2.1
  · rw [up2_ne (by omega), upd_n (by omega)]; exact h.set.2.2
  · rw [up2_ne (by omega), up2_ne (by omega), up2_ne (by omega), up2_ne (by omega), up2_ne (by omega)]
    rw [hN] at hs; rw [upd_n (by omega), upd_n (by omega), rRoom_cong (z := z) (upd_n (by omega)) (fun j hj _ => upd_n (by omega)) (by omega), rAb_cong hi hw (upd_n (by omega)) (fun j hj _ => upd_n (by omega)) hs, rBe_cong (z := z) (fun j hj _ => upd_n (by omega)) (by omega)]; exact h.seg hs
  · rw [up2_ne (by omega)]; exact h.bu hs
  · rw [hM] at ht'
    by_cases e : t' = t ∧ k' = k
    · obtain ⟨rfl, rfl⟩ := e
      rw [up2_same, upd_s]
    · rw [up2_ne (by omega), upd_n (by omega)]; exact h.tr ht' hk'
theorem Rs_early {G : mM} {c : Nat} {z : mR} (h : Rs G c z) (hi : rInv z) {t : Nat} {v : Int32} (ht : t < 4) : Rs (up2 G (c + 16 + t) 9 v) c (z) := by
  have hn := hi.n
  have hm := hi.m
  skip
  refine ⟨⟨by rw [up2_ne (by omega)]; exact h.1.1, by rw [up2_ne (by omega)]; exact h.1.2.1, by rw [up2_ne (by omega)]; exact h.1.2.2.1, by rw [up2_ne (by omega)]; exact h.1.2.2.2.1, by rw [up2_ne (by omega)]; exact h.1.2.2.2.2.1, by rw [up2_ne (by omega)]; exact h.1.2.2.2.2.2.1, by rw [up2_ne (by omega)]; exact h.1.2.2.2.2.2.2⟩, ⟨?_, ?_, ?_⟩, fun s hs => ?_, fun s hs => ?_, fun t' ht' k' hk' => ?_⟩
  · rw [up2_ne (by omega)]; exact h.set.1
  · rw [up2_ne (by omega)]; exact h.set.2.1
  · rw [up2_ne (by omega)]; exact h.set.2.2
  · rw [up2_ne (by omega), up2_ne (by omega), up2_ne (by omega), up2_ne (by omega), up2_ne (by omega)]
    exact h.seg hs
  · rw [up2_ne (by omega)]; exact h.bu hs
  · skip
    rw [up2_ne (by omega)]; exact h.tr ht' hk'
theorem Rs_peak {G : mM} {c : Nat} {z : mR} (h : Rs G c z) (hi : rInv z) {v : Int32} : Rs (up2 G c 10 v) c (z) := by
  have hn := hi.n
  have hm := hi.m
  skip
  refine ⟨⟨by rw [up2_ne (by omega)]; exact h.1.1, by rw [up2_ne (by omega)]; exact h.1.2.1, by rw [up2_ne (by omega)]; exact h.1.2.2.1, by rw [up2_ne (by omega)]; exact h.1.2.2.2.1, by rw [up2_ne (by omega)]; exact h.1.2.2.2.2.1, by rw [up2_ne (by omega)]; exact h.1.2.2.2.2.2.1, by rw [up2_ne (by omega)]; exact h.1.2.2.2.2.2.2⟩, ⟨?_, ?_, ?_⟩, fun s hs => ?_, fun s hs => ?_, fun t' ht' k' hk' => ?_⟩
  · rw [up2_ne (by omega)]; exact h.set.1
  · rw [up2_ne (by omega)]; exact h.set.2.1
  · rw [up2_ne (by omega)]; exact h.set.2.2
  · rw [up2_ne (by omega), up2_ne (by omega), up2_ne (by omega), up2_ne (by omega), up2_ne (by omega)]
    exact h.seg hs
  · rw [up2_ne (by omega)]; exact h.bu hs
  · skip
    rw [up2_ne (by omega)]; exact h.tr ht' hk'
theorem sPs {G : mM} {c : Nat} {z : mR} (h : Rs G c z) (hi : rInv z) {s : Nat} (hs : s < rN z) : x2_isPassingPlace (c + 4 + s) G = some (if rPs z s then 1 else 0) := by
  have hn := hi.n
  unfold x2_isPassingPlace
  rw [(h.seg hs).2.1]
  unfold rRoom
  by_cases h1 : rEnd z s
  · have h2 : rPs z s := by
      rcases h1 with h1 | h1
      · rw [h1]; exact hi.first
      · rw [show s = rN z - 1 by omega]; exact hi.last
    rw [if_pos h1, if_pos h2, if_neg (by decide)]
  · rw [if_neg h1]
    by_cases h2 : rPs z s
    · rw [if_pos h2, if_pos h2, if_neg (by decide)]
    · rw [if_neg h2, if_neg h2, if_pos (by decide)]
theorem sSeg {G : mM} {c : Nat} {z : mR} (h : Rs G c z) (hi : rInv z) {s : Nat} (hs : s < rN z) : x3_segmentAt c (nI s) G = some (some (c + 4 + s)) := by
  have hn := hi.n
  rw [sAn (h.n hi) hn.2 (by omega), if_pos hs]
theorem sTr {G : mM} {c : Nat} {z : mR} (h : Rs G c z) (hi : rInv z) {t : Nat} (ht : t < rM z) : x3_trainAt c (nI t) G = some (some (c + 16 + t)) := by
  have hm := hi.m
  rw [tAn (h.m hi) hm (by omega), if_pos ht]
theorem sTrIn {G : mM} {c : Nat} {z : mR} (h : Rs G c z) (hi : rInv z) (x : Int32) : x3_trainsIn c x G = some (rTrIn z x) := by
  rw [cTrIn (h.m hi) hi.m]
  exact congrArg some (sumI_cong (fun t ht => by rw [h.tr ht (by decide)]))
theorem sWIn {G : mM} {c : Nat} {z : mR} (h : Rs G c z) (hi : rInv z) (x : Int32) : x3_weightIn c x G = some (rWIns z x) := by
  rw [cWIn (h.m hi) hi.m]
  exact congrArg some (sumI_cong (fun t ht => by rw [h.tr ht (k := 3) (by decide), h.tr ht (k := 0) (by decide), h.tr ht (k := 2) (by decide)]; rfl))
theorem sPeat {G : mM} {c : Nat} {z : mR} (h : Rs G c z) (hi : rInv z) : x3_peatInTrains c G = some (rPeat z) := by
  rw [cPeat (h.m hi) hi.m]
  exact congrArg some (sumI_cong (fun t ht => by rw [h.tr ht (by decide)]))
theorem sWaits {G : mM} {c : Nat} {z : mR} (h : Rs G c z) (hi : rInv z) : x3_waitsOfAll c G = some (rWaits z) := by
  rw [cWaits (h.m hi) hi.m]
  exact congrArg some (sumI_cong (fun t ht => by rw [h.tr ht (by decide)]))
theorem sDeep {G : mM} {c : Nat} {z : mR} (h : Rs G c z) (hi : rInv z) : x3_greatestSinking c G = some (rDeep z) := by
  rw [cDeep (h.n hi) hi.n.2]
  exact congrArg some (mxI_cong (fun s hs => by rw [(h.seg hs).2.2.1]))
theorem sSum {G : mM} {c : Nat} {z : mR} (h : Rs G c z) (hi : rInv z) : x3_sumOfSinkings c G = some (rSum z) := by
  rw [cSum (h.n hi) hi.n.2]
  exact congrArg some (sumI_cong (fun s hs => by rw [(h.seg hs).2.2.1]))
theorem sSunk {G : mM} {c : Nat} {z : mR} (h : Rs G c z) (hi : rInv z) : x3_sunkSegments c G = some (rSunk z) := by
  rw [cSunk (h.n hi) hi.n.2]
  exact congrArg some (orI_cong (fun s hs => by rw [(h.seg hs).2.2.1, h.set.1]))
