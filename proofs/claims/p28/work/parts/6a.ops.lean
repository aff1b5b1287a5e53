/-! CALLS THAT CHANGE, in the row's words -/
/-- what recording does to the ghost's history -/
def Hs (B B' : mM) : Prop := ∃ m, m ≤ 8 ∧ B 246 2 = nI m ∧ ((m < 8 ∧ B' 246 2 = nI (m + 1) ∧ ∀ j, j < 82 → B' 249 (82 * m + j) = B 247 j) ∨ (m = 8 ∧ B' 246 2 = nI 8))
theorem Hs.sr {B B1 : mM} {w : mR} (h : Hs B B1) : Hs B (sr B1 w) := by
  obtain ⟨m, h1, h2, h3⟩ := h
  refine ⟨m, h1, h2, ?_⟩
  rw [sr_o (show 246 ≠ 247 by decide), sr_o (show 249 ≠ 247 by decide)]
  exact h3
theorem recO {k : Nat} {A B : mM} (h : Rel k A B) : ∃ B1, x6_record B = some (sr B1 (B 247)) ∧ (∀ e, e ≠ 246 → e ≠ 249 → B1 e = B e) ∧ Hs B B1 := by
  obtain ⟨A', B', h1, h2, h3, h4, h5, h6⟩ := recBoth h
  have e := h5 247 (by decide) (by decide)
  have e' : B' = sr B' (B 247) := by rw [← e]; exact (sr_id B').symm
  refine ⟨B', h2.trans (congrArg some e'), h5, ?_⟩
  obtain ⟨m, sc, a1, a2, a3, -⟩ := h.2.2.2.1
  have c8 : ∀ x : Nat, x < 8 → (82 : Int32) * nI x = nI (82 * x) := fun x _ => pk_mul 82 x
  unfold x6_record at h2
  by_cases hm : m < 8
  · rw [a3, if_neg (fun q => by have := (jA_neq (b := 8) (by omega) (by decide)).mp q; omega), c8 m hm, show x6_copy 247 82 0 249 656 (nI (82 * m)) B = _ from eCopy B (o := 0) (by decide) (by decide) (by omega) (by decide) (by decide), bs, mNm_e, cpR_o (by decide), a3, jA_1] at h2
    cases h2
    refine ⟨m, a1, a3, Or.inl ⟨hm, up2_same _ _ _ _, fun j hj => ?_⟩⟩
    rw [up2_other (by decide), cpR_in hj, Nat.zero_add]
  · have hm8 : m = 8 := by omega
    subst hm8
    have s2 : shR B 656 246 2 = nI 8 := by unfold shR; rw [if_neg (by decide)]; exact a3
    rw [a3, if_pos (show nI 8 = (8 : Int32) from rfl), eShift B, bs, mNm_e, s2, show nI 8 - (1 : Int32) = nI 7 from rfl, up2_same, c8 7 (by decide), show x6_copy 247 82 0 249 656 (nI (82 * 7)) (up2 (shR B 656) 246 2 (nI 7)) = _ from eCopy _ (o := 0) (by decide) (by decide) (by decide) (by decide) (by decide), bs, mNm_e, cpR_o (by decide), up2_same, jA_1] at h2
    cases h2
    exact ⟨8, by decide, a3, Or.inr ⟨rfl, up2_same _ _ _ _⟩⟩
def Opk (k : Nat) (A : mM) (x : Option (Int32 × mM)) (r : Int32) (w : mR) (H : mM → Prop) : Prop := ∃ A' B', x = some (r, A') ∧ Rel (k + 1) A' B' ∧ B' 247 = w ∧ (∀ e, 246 ≤ e → A' e = A e) ∧ H B'
theorem opR {k : Nat} {A B : mM} (h : Rel k A B) {x y : Option (Int32 × mM)} (h2 : B2 k A B x y) {B1 : mM} {w : mR} {r : Int32} {H : mM → Prop} (e : y = some (r, sr B1 w)) (hB : ∀ e, 1000 ≤ e → B1 e = B e) (hH : H (sr B1 w)) : Opk k A x r w H := by
  obtain ⟨r', A', B', e1, e2, hR⟩ := h2
  rw [e] at e2
  cases e2
  exact ⟨A', _, e1, hR, sr_247 _ _, fun q hq => by rw [hR.2.2.2.2.2 q hq, sr_o (by omega), hB _ (by omega), h.2.2.2.2.2 q hq], hH⟩
/-- a call that is refused -/
theorem opN {k : Nat} {A B : mM} (h : Rel k A B) {x y : Option (Int32 × mM)} (h2 : B2 k A B x y) {r : Int32} (e : y = some (r, B)) : Opk k A x r (B 247) (fun B' => B' = B) := by
  obtain ⟨r', A', B', e1, e2, hR⟩ := h2
  rw [e] at e2
  cases e2
  exact ⟨A', B, e1, hR, rfl, fun q hq => by rw [hR.2.2.2.2.2 q hq, h.2.2.2.2.2 q hq], rfl⟩
section OPS
variable {k : Nat} {A B : mM}
theorem oRun (h : Rel k A B) (hk : k < 3000) {n : Nat} (hn : 1 ≤ n ∧ n ≤ 200) : Opk k A (x5_run (nI n) A) (rTicks (B 247) n 80 - B 247 80) (rTicks (B 247) n) (Hs B) := by
  obtain ⟨B1, g1, g2, g3⟩ := recO h
  have hi := h.1.2.1
  refine opR h (rel_run h hk (nI n)) (B1 := B1) ?_ (fun e he => g2 e (by omega) (by omega)) g3.sr
  unfold x6_run
  rw [wn (nI n) 1 200 (l := 1) (h := 200) rfl rfl B, bs, ite10, if_pos (by rw [jA_n (by omega)]; omega), g1, bs, oT5, bs, eRunL _ hi _ (by omega), bs, oT5, bs]
theorem oDig (h : Rel k A B) {n : Nat} (hn : 1 ≤ n ∧ n ≤ 1000) : if B 247 79 + nI n ≤ 5000 then Opk k A (x5_dig (nI n) A) (B 247 79 + nI n) (upd (upd (B 247) 78 (B 247 78 + nI n)) 79 (B 247 79 + nI n)) (Hs B) else Opk k A (x5_dig (nI n) A) (-4) (B 247) (fun B' => B' = B) := by
  obtain ⟨B1, g1, g2, g3⟩ := recO h
  by_cases c : B 247 79 + nI n ≤ 5000
  · rw [if_pos c]
    refine opR h (rel_dig h (nI n)) (B1 := B1) ?_ (fun e he => g2 e (by omega) (by omega)) g3.sr
    unfold x6_dig
    rw [wn (nI n) 1 1000 (l := 1) (h := 1000) rfl rfl B, bs, ite10, if_pos (by rw [jA_n (by omega)]; omega), eOther4, bs, if_pos c, g1, bs, mNm_e, sr_247, sr_up, mNm_e, sr_247, sr_up, oT4, bs, upd_s, upd_n (by decide)]
  · rw [if_neg c]
    refine opN h (rel_dig h (nI n)) ?_
    unfold x6_dig
    rw [wn (nI n) 1 1000 (l := 1) (h := 1000) rfl rfl B, bs, ite10, if_pos (by rw [jA_n (by omega)]; omega), eOther4, bs, if_neg c]
theorem oAdd (h : Rel k A B) {x y : Nat} (hx : 1 ≤ x ∧ x ≤ 6) (hy : 1 ≤ y ∧ y ≤ 20) : if rM (B 247) = 4 then Opk k A (x5_addTrain (nI x) (nI y) A) (-4) (B 247) (fun B' => B' = B) else Opk k A (x5_addTrain (nI x) (nI y) A) (nI (rM (B 247))) (upd (upd (upd (zrT (B 247) (rM (B 247)) 9) (36 + 9 * rM (B 247) + 0) (nI x)) (36 + 9 * rM (B 247) + 1) (nI y)) 73 (nI (rM (B 247) + 1))) (Hs B) := by
  obtain ⟨B1, g1, g2, g3⟩ := recO h
  have hi := h.1.2.1
  have hm := hi.m
  by_cases c : rM (B 247) = 4
  · rw [if_pos c]
    refine opN h (rel_addTrain h (nI x) (nI y)) ?_
    unfold x6_addTrain
    rw [wn (nI x) 1 6 (l := 1) (h := 6) rfl rfl B, bs, ite10, if_pos (by rw [jA_n (by omega)]; omega), wn (nI y) 1 20 (l := 1) (h := 20) rfl rfl B, bs, ite10, if_pos (by rw [jA_n (by omega)]; omega), hi.zm, c, if_pos (show nI 4 = (4 : Int32) from rfl)]
  · rw [if_neg c]
    refine opR h (rel_addTrain h (nI x) (nI y)) (B1 := B1) ?_ (fun e he => g2 e (by omega) (by omega)) g3.sr
    unfold x6_addTrain
    rw [wn (nI x) 1 6 (l := 1) (h := 6) rfl rfl B, bs, ite10, if_pos (by rw [jA_n (by omega)]; omega), wn (nI y) 1 20 (l := 1) (h := 20) rfl rfl B, bs, ite10, if_pos (by rw [jA_n (by omega)]; omega), hi.zm, if_neg (show ¬ nI (rM (B 247)) = (4 : Int32) from fun q => c ((jA_neq (b := 4) (by omega) (by decide)).mp q)), g1, bs, mNm_e, sr_247, hi.zm, eZero _ _ _ _ (by omega), bs, pU0 _ _ (by omega), bs, pU1 _ _ (by omega), bs, mNm_e, sr_247, sr_up]
    have h73 : upd (upd (zrT (B 247) (rM (B 247)) 9) (36 + 9 * rM (B 247) + 0) (nI x)) (36 + 9 * rM (B 247) + 1) (nI y) 73 = nI (rM (B 247)) := by
      rw [upd_n (by omega), upd_n (by omega)]; unfold zrT; rw [if_neg (by omega), hi.zm]
    rw [h73, jA_1]
theorem oSetv (h : Rel k A B) {j : Nat} (hj : j < 3) {v : Int32} (hv : setL j v) : Opk k A (x5_set (nI j) v A) (B 247 (75 + j)) (upd (B 247) (75 + j) v) (Hs B) := by
  obtain ⟨B1, g1, g2, g3⟩ := recO h
  refine opR h (rel_set h (nI j) v) (B1 := B1) ?_ (fun e he => g2 e (by omega) (by omega)) g3.sr
  have hval : x6_isValue (nI j) v B = some 1 := by
    unfold x6_isValue
    rcases (show j = 0 ∨ j = 1 ∨ j = 2 by omega) with rfl | rfl | rfl
    · rw [if_pos (show nI 0 = 0 from rfl), wn v 10 900 (l := 10) (h := 900) rfl rfl B, if_pos (hv.1 rfl), bs, mCk_t (Or.inr rfl)]
    · rw [if_neg (show ¬ nI 1 = 0 by decide), if_pos (show nI 1 = 1 from rfl), wn v 1 50 (l := 1) (h := 50) rfl rfl B, if_pos (hv.2.1 rfl), bs, mCk_t (Or.inr rfl)]
    · rw [if_neg (show ¬ nI 2 = 0 by decide), if_neg (show ¬ nI 2 = 1 by decide), if_pos (show nI 2 = 2 from rfl), wn v 0 2 (l := 0) (h := 2) rfl rfl B, if_pos (by rcases hv.2.2 rfl with q | q | q <;> rw [q] <;> decide), bs, mCk_t (Or.inr rfl)]
  have e75 : (75 : Int32) + nI j = nI (75 + j) := nI_add 75 j
  unfold x6_set
  rw [hval, bs, if_neg one_ne, g1, bs]
  unfold x6_other
  rw [e75, mCk_t (jA_in (by omega) (by decide)), bs, mCk_t (jA_in (by omega) (by decide)), mNm_e, jA_clamp (by omega), sr_247, sr_up]
theorem oLoad (h : Rel k A B) {t y : Nat} (ht : t < rM (B 247)) (hy : 1 ≤ y ∧ y ≤ 20) : Opk k A (x5_setLoad (nI t) (nI y) A) (B 247 (36 + 9 * t + 1)) (upd (B 247) (36 + 9 * t + 1) (nI y)) (Hs B) := by
  obtain ⟨B1, g1, g2, g3⟩ := recO h
  have hi := h.1.2.1
  have hm := hi.m
  refine opR h (rel_setLoad h (nI t) (nI y)) (B1 := B1) ?_ (fun e he => g2 e (by omega) (by omega)) g3.sr
  unfold x6_setLoad
  rw [eIsTrain hi.zm hm, bs, ite10, if_pos (jA_in ht (by omega)), wn (nI y) 1 20 (l := 1) (h := 20) rfl rfl B, bs, ite10, if_pos (by rw [jA_n (by omega)]; omega), g1, bs, oF1 _ _ (by omega), bs, pU1 _ _ (by omega), bs]
theorem oDropN (h : Rel k A B) (h0 : rM (B 247) = 0) : Opk k A (x5_dropTrain 0 A) (-2) (B 247) (fun B' => B' = B) := by
  have hi := h.1.2.1
  refine opN h (rel_dropTrain h 0) ?_
  unfold x6_dropTrain
  rw [eIsTrain hi.zm hi.m, bs, ite10, h0, if_neg (by decide)]
theorem oLoadN (h : Rel k A B) (h0 : rM (B 247) = 0) : Opk k A (x5_setLoad 0 1 A) (-2) (B 247) (fun B' => B' = B) := by
  have hi := h.1.2.1
  refine opN h (rel_setLoad h 0 1) ?_
  unfold x6_setLoad
  rw [eIsTrain hi.zm hi.m, bs, ite10, h0, if_neg (by decide)]
theorem oWhyN (h : Rel k A B) (h0 : rM (B 247) = 0) : x5_why 0 A = some (-2) := by
  have hi := h.1.2.1
  unfold x5_why
  rw [tA (h.1.1.m hi) hi.m, bs, h0, if_neg (by decide), mOn]
theorem oDrop (h : Rel k A B) {t : Nat} (ht : t < rM (B 247)) : Opk k A (x5_dropTrain (nI t) A) (B 247 (36 + 9 * t + 2)) (shT (upd (upd (B 247) 81 (B 247 81 + B 247 (36 + 9 * t + 2))) 73 (nI (rM (B 247) - 1))) (36 + 9 * t) (36 + 9 * (rM (B 247) - 1))) (Hs B) := by
  obtain ⟨B1, g1, g2, g3⟩ := recO h
  have hi := h.1.2.1
  have hm := hi.m
  refine opR h (rel_dropTrain h (nI t)) (B1 := B1) ?_ (fun e he => g2 e (by omega) (by omega)) g3.sr
  unfold x6_dropTrain
  rw [eIsTrain hi.zm hm, bs, ite10, if_pos (jA_in ht (by omega)), g1, bs, oF2 _ _ (by omega), bs, mNm_e, sr_247, sr_up, mNm_e, sr_247, sr_up, mNm_e, upd_n (show (73 : Nat) ≠ 81 by decide), hi.zm, show nI (rM (B 247)) - (1 : Int32) = nI (rM (B 247) - 1) from pk_sub (a := rM (B 247)) (b := 1) (by omega), show (36 : Int32) + 9 * nI t = nI (36 + 9 * t) by rw [show (9 : Int32) * nI t = nI (9 * t) from pk_mul 9 t]; exact nI_add 36 (9 * t), eShT _ _ (m := rM (B 247)) ht hm (upd_s _ _ _), bs]
theorem oUndo (h : Rel k A B) {q : Nat} (hq : B 246 2 = nI (q + 1)) (hq8 : q < 8) : ∃ A' B', x5_undo A = some (nI q, A') ∧ Rel (k + 1) A' B' ∧ (∀ j, j < 82 → B' 247 j = B 249 (82 * q + j)) ∧ (∀ e, 246 ≤ e → A' e = A e) ∧ B' 246 2 = nI q := by
  obtain ⟨r', A', B', e1, e2, hR⟩ := rel_undo h
  have hqq : nI (q + 1) - (1 : Int32) = nI q := pk_sub (a := q + 1) (b := 1) (by omega)
  unfold x6_undo at e2
  rw [hq, if_neg (nI_ne (by omega) (by omega)), mNm_e, hqq, up2_same, show (82 : Int32) * nI q = nI (82 * q) from pk_mul 82 q, show x6_copy 249 656 (nI (82 * q)) 247 82 0 (up2 B 246 2 (nI q)) = _ from eCopy _ (q := 0) (by decide) (by omega) (by decide) (by decide) (by decide), bs, cpR_o (by decide), up2_same] at e2
  cases e2
  refine ⟨A', _, e1, hR, fun j hj => ?_, fun e he => ?_, by rw [cpR_o (by decide), up2_same]⟩
  · rw [cpR_row j hj]
    unfold rowAt
    rw [up2_other (by decide)]
  · rw [hR.2.2.2.2.2 e he, cpR_o (by omega), up2_other (by omega), h.2.2.2.2.2 e he]
theorem oUndo0 (h : Rel k A B) (hq : B 246 2 = 0) : Opk k A (x5_undo A) (-3) (B 247) (fun B' => B' = B) := by
  refine opN h (rel_undo h) ?_
  unfold x6_undo
  rw [hq, if_pos rfl]
theorem oBack0 (h : Rel k A B) (hq : B 246 4 = 0) : Opk k A (x5_back 0 A) (-3) (B 247) (fun B' => B' = B) := by
  refine opN h (rel_back h 0) ?_
  unfold x6_back
  rw [wn 0 0 1 (l := 0) (h := 1) rfl rfl B, bs, ite10, if_pos (by decide), hq, if_pos (by decide)]
theorem oIf (h : Rel k A B) {n : Nat} (hn : 1 ≤ n ∧ n ≤ 200) {x : Int32} (hx : 0 ≤ x.toInt ∧ x.toInt ≤ 3) : Opk k A (x5_ifRun (nI n) x A) (rAh (B 247) n x) (B 247) (fun _ => True) := by
  have hi := h.1.2.1
  obtain ⟨G1, b1, b2⟩ := eAhead B hi (n := n) (by omega) x
  rw [sr_id] at b1
  refine opR h (rel_ifRun h (nI n) x) (B1 := G1) ?_ (fun e he => b2 e (by omega) (by omega)) trivial
  unfold x6_ifRun
  rw [wn (nI n) 1 200 (l := 1) (h := 200) rfl rfl B, bs, ite10, if_pos (by rw [jA_n (by omega)]; omega), wn x 0 3 (l := 0) (h := 3) rfl rfl B, bs, ite10, if_pos hx, b1, bs]
theorem oRule (h : Rel k A B) {n : Nat} (hn : 1 ≤ n ∧ n ≤ 200) : Opk k A (x5_bestRule (nI n) A) (rBst (B 247) 77 n 0 3).1 (B 247) (fun _ => True) := by
  have hi := h.1.2.1
  obtain ⟨G1, b1, b2⟩ := eBest B (z := B 247) (idx := 77) (n := n) (lo := 0) (c := 3) (by decide) (by decide) (by decide) (by decide) (by omega) (fun i hi3 => rInv_setv hi (j := 2) (by decide) ⟨fun e => absurd e (by decide), fun e => absurd e (by decide), fun _ => by
    rcases (show i = 0 ∨ i = 1 ∨ i = 2 by omega) with rfl | rfl | rfl
    · exact Or.inl rfl
    · exact Or.inr (Or.inl rfl)
    · exact Or.inr (Or.inr rfl)⟩) (by decide)
  rw [sr_id] at b1
  refine opR h (rel_bestRule h (nI n)) (B1 := G1) ?_ (fun e he => b2 e (by omega) (by omega)) trivial
  unfold x6_bestRule
  rw [wn (nI n) 1 200 (l := 1) (h := 200) rfl rfl B, bs, ite10, if_pos (by rw [jA_n (by omega)]; omega), show x6_best 77 0 2 (nI n) B = _ from b1, bs]
theorem oBestL (h : Rel k A B) {n t : Nat} (hn : 1 ≤ n ∧ n ≤ 200) (ht : t < rM (B 247)) : Opk k A (x5_bestLoad (nI t) (nI n) A) (rBst (B 247) (36 + 9 * t + 1) n 1 20).1 (B 247) (fun _ => True) := by
  have hi := h.1.2.1
  have hm := hi.m
  obtain ⟨G1, b1, b2⟩ := eBest B (z := B 247) (idx := 36 + 9 * t + 1) (n := n) (lo := 1) (c := 20) (by omega) (by omega) (by decide) (by decide) (by omega) (fun i hi3 => rInv_put hi ht (by decide) ⟨fun e => absurd e (by decide), fun _ => by rw [jA_n (by omega)]; omega, fun e => absurd e (by decide), fun e => absurd e (by decide), fun e => absurd e (by decide)⟩) (by decide)
  rw [sr_id] at b1
  refine opR h (rel_bestLoad h (nI t) (nI n)) (B1 := G1) ?_ (fun e he => b2 e (by omega) (by omega)) trivial
  unfold x6_bestLoad
  rw [eIsTrain hi.zm hm, bs, ite10, if_pos (jA_in ht (by omega)), wn (nI n) 1 200 (l := 1) (h := 200) rfl rfl B, bs, ite10, if_pos (by rw [jA_n (by omega)]; omega), show (36 : Int32) + 9 * nI t + 1 = nI (36 + 9 * t + 1) by rw [show (9 : Int32) * nI t = nI (9 * t) from pk_mul 9 t, show (36 : Int32) + nI (9 * t) = nI (36 + 9 * t) from nI_add 36 (9 * t), jA_1], show x6_best (nI (36 + 9 * t + 1)) 1 20 (nI n) B = _ from b1, bs]
end OPS
/-- the least number from i on, at most k further, at which it holds -/
def fT (p : Nat → Prop) [DecidablePred p] : Nat → Nat → Nat
  | 0, i => i
  | k + 1, i => if p i then i else fT p k (i + 1)
theorem fT_le (p : Nat → Prop) [DecidablePred p] : ∀ k i, i ≤ fT p k i ∧ fT p k i ≤ i + k
  | 0, i => ⟨Nat.le_refl _, Nat.le_refl _⟩
  | k + 1, i => by
    unfold fT
    by_cases h : p i
    · rw [if_pos h]; omega
    · rw [if_neg h]; have := fT_le p k (i + 1); omega
theorem fT_p (p : Nat → Prop) [DecidablePred p] : ∀ k i, fT p k i < i + k → p (fT p k i)
  | 0, i, h => by have := fT_le p 0 i; omega
  | k + 1, i, h => by
    unfold fT at h ⊢
    by_cases q : p i
    · rw [if_pos q]; exact q
    · rw [if_neg q] at h ⊢; exact fT_p p k (i + 1) (by omega)
/-- one further -/
theorem fT_s (p : Nat → Prop) [DecidablePred p] : ∀ k i, fT p (k + 1) i = if p (fT p k i) then fT p k i else fT p k i + 1
  | 0, i => by unfold fT; rfl
  | k + 1, i => by
    rw [fT]
    by_cases q : p i
    · have e : fT p (k + 1) i = i := by rw [fT, if_pos q]
      rw [if_pos q, e, if_pos q]
    · have e : fT p (k + 1) i = fT p k (i + 1) := by rw [fT, if_neg q]
      rw [if_neg q, e]
      exact fT_s p k (i + 1)
abbrev rGoal (z : mR) (x : Int32) (i : Nat) : Prop := ¬ rTicks z i 80 < z 80 + x
theorem eUntil (G : mM) {z : mR} (hi : rInv z) (x : Int32) : ∀ (k i n : Nat), i + k = 500 → k < n → x6_ticksUntil_L24 (z 80 + x) n (nI i) (sr G (rTicks z i)) = some (nI (fT (rGoal z x) k i), sr G (rTicks z (fT (rGoal z x) k i)))
  | 0, i, n, h, hn => by
    obtain ⟨n, rfl⟩ : ∃ q, n = q + 1 := ⟨n - 1, by omega⟩
    have e : i = 500 := by omega
    subst e
    rw [x6_ticksUntil_L24]
    first
      | rw [if_pos (show (500 : Int32) ≤ nI 500 by decide)]; rfl
      | rw [if_neg (show ¬ nI 500 < (500 : Int32) by decide)]; rfl
  | k + 1, i, n, h, hn => by
    obtain ⟨n, rfl⟩ : ∃ q, n = q + 1 := ⟨n - 1, by omega⟩
    rw [x6_ticksUntil_L24, fT]
    rw [if_neg (show ¬ (500 : Int32) ≤ nI i from fun q => by have := (jA_nle (a := 500) (by decide) (by omega)).mp q; omega), oT5, bs]
    by_cases q : rTicks z i 80 < z 80 + x
    · rw [if_neg (show ¬ z 80 + x ≤ rTicks z i 80 from fun r => by rw [jA_le] at r; rw [jA_lt] at q; omega), if_neg (show ¬ rGoal z x i from fun r => r q), eTick G (rTicks_inv hi i), bs, mNm_e, jA_1]
      exact eUntil G hi x k (i + 1) n (by omega) (by omega)
    · rw [if_pos (show z 80 + x ≤ rTicks z i 80 by rw [jA_le]; rw [jA_lt] at q; omega), if_pos (show rGoal z x i from q)]
theorem oFor {k : Nat} {A B : mM} (h : Rel k A B) (hk : k < 3000) {n : Nat} (hn : 1 ≤ n ∧ n ≤ 1000) : Opk k A (x5_ticksFor (nI n) A) (if rTicks (B 247) (fT (rGoal (B 247) (nI n)) 500 0) 80 < B 247 80 + nI n then -1 else nI (fT (rGoal (B 247) (nI n)) 500 0)) (B 247) (fun _ => True) := by
  have hi := h.1.2.1
  obtain ⟨G1, a1, a2, a3⟩ := eAside B (B 247)
  rw [sr_id] at a1
  refine opR h (rel_ticksFor h hk (nI n)) (B1 := G1) ?_ (fun e he => a2 e (by omega) (by omega)) trivial
  have hL := eUntil G1 hi (nI n) 500 0 mFu (by decide) (by unfold mFu; decide)
  have hback : ∀ r, x6_copy 248 82 0 247 82 0 (sr G1 (rTicks (B 247) r)) = some (sr G1 (B 247)) := fun r => eUnaside G1 (B 247) _ a3 (fun j hj => rTicks_k hi (Or.inr (Or.inr (by omega))) r)
  unfold x6_ticksFor x6_ticksUntil
  rw [wn (nI n) 1 1000 (l := 1) (h := 1000) rfl rfl B, bs, ite10, if_pos (by rw [jA_n (by omega)]; omega), a1, bs, oT5, bs, mNm_e, show x6_ticksUntil_L24 (B 247 80 + nI n) mFu 0 (sr G1 (B 247)) = _ from hL, bs]
  dsimp only
  rw [oT5, bs]
  by_cases q : rTicks (B 247) (fT (rGoal (B 247) (nI n)) 500 0) 80 < B 247 80 + nI n
  · rw [if_neg (show ¬ B 247 80 + nI n ≤ rTicks (B 247) (fT (rGoal (B 247) (nI n)) 500 0) 80 from fun r => by rw [jA_le] at r; rw [jA_lt] at q; omega), if_pos q]
    first
      | rw [hback, bs, bs]
      | (rw [mNm_e, hback, bs, bs])
  · rw [if_pos (show B 247 80 + nI n ≤ rTicks (B 247) (fT (rGoal (B 247) (nI n)) 500 0) 80 by rw [jA_le]; rw [jA_lt] at q; omega), if_neg q]
    first
      | rw [hback, bs, bs]
      | (rw [mNm_e, hback, bs, bs])
