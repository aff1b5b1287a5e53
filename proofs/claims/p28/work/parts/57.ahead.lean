/-! WHAT WOULD BE: ifRun, bestRule, bestLoad -/
def rAh (z : mR) (n : Nat) (x : Int32) : Int32 := if x = 0 then rTicks z n 80 - z 80 else if x = 1 then rDeep (rTicks z n) else if x = 2 then rWaits (rTicks z n) - rWaits z else rPk z n
def o78 (G G' : mM) : Prop := ∀ d, d ≠ 247 → d ≠ 248 → G' d = G d
theorem o78.rf {G : mM} : o78 G G := fun _ _ _ => rfl
theorem o78.tr {G G' G'' : mM} (h : o78 G G') (h2 : o78 G' G'') : o78 G G'' := fun d a b => (h2 d a b).trans (h d a b)
theorem eAside (G : mM) (z : mR) : ∃ G1, x6_copy 247 82 0 248 82 0 (sr G z) = some (sr G1 z) ∧ o78 G G1 ∧ ∀ j, j < 82 → G1 248 j = z j := by
  refine ⟨cpR (sr G z) 247 0 248 0 82, ?_, fun d d1 d2 => by rw [cpR_o d2, sr_o d1], fun j hj => ?_⟩
  · rw [show x6_copy 247 82 0 248 82 0 (sr G z) = _ from eCopy _ (o := 0) (q := 0) (by decide) (by decide) (by decide) (by decide) (by decide)]
    have e := sr_id (cpR (sr G z) 247 0 248 0 82)
    rw [cpR_o (show (247 : Nat) ≠ 248 by decide), sr_247] at e
    rw [e]
  · unfold cpR
    rw [if_pos ⟨rfl, by omega, by omega⟩, sr_247, Nat.sub_zero, Nat.zero_add]
theorem eUnaside (G : mM) (z w : mR) (h : ∀ j, j < 82 → G 248 j = z j) (h2 : ∀ j, 82 ≤ j → w j = z j) : x6_copy 248 82 0 247 82 0 (sr G w) = some (sr G z) := by
  rw [show x6_copy 248 82 0 247 82 0 (sr G w) = _ from eCopy _ (o := 0) (q := 0) (by decide) (by decide) (by decide) (by decide) (by decide)]
  congr 1
  funext d j
  unfold cpR
  by_cases e : d = 247
  · subst e
    by_cases e2 : j < 82
    · rw [if_pos ⟨rfl, by omega, by omega⟩, sr_o (by decide), Nat.sub_zero, Nat.zero_add, sr_247]; exact h j e2
    · rw [if_neg (by omega), sr_247, sr_247]; exact h2 j (by omega)
  · rw [if_neg (fun q => e q.1), sr_o e, sr_o e]
theorem eAhead (G : mM) {z : mR} (hi : rInv z) {n : Nat} (hn : n < 1900) (x : Int32) : ∃ G1, x6_ahead (nI n) x (sr G z) = some (rAh z n x, sr G1 z) ∧ o78 G G1 := by
  obtain ⟨G1, a1, a2, a3⟩ := eAside G z
  have hT := rTicks_inv hi n
  have hb := eUnaside G1 z (rTicks z n) a3 (fun j hj => rTicks_k hi (Or.inr (Or.inr (by omega))) n)
  refine ⟨G1, ?_, a2⟩
  unfold x6_ahead
  rw [a1, bs, oT5, bs, eWaits _ hi, bs, eAheadL _ hi _ _ _ hn, bs]
  unfold rAh
  by_cases e0 : x = 0
  · rw [if_pos e0, if_pos e0, oT5, bs, mNm_e, hb, bs]
  · rw [if_neg e0, if_neg e0]
    by_cases e1 : x = (1 : Int32)
    · rw [if_pos e1, if_pos e1, eDeep _ hT, bs, hb, bs]
    · rw [if_neg e1, if_neg e1]
      by_cases e2 : x = (2 : Int32)
      · rw [if_pos e2, if_pos e2, eWaits _ hT, bs, mNm_e, hb, bs]
      · rw [if_neg e2, if_neg e2, hb, bs]
/-- the memory of the class but for the trial State -/
def oTr (A A' : mM) : Prop := ∀ d, (d < 20 ∨ 40 ≤ d) → A' d = A d
theorem oTr.rf {A : mM} : oTr A A := fun _ _ => rfl
theorem oTr.tr {A A' A'' : mM} (h : oTr A A') (h2 : oTr A' A'') : oTr A A'' := fun d a => (h2 d a).trans (h d a)
theorem oTr.fr {m : Nat} {A A' : mM} (h : fr 20 m A A') (hm : m ≤ 4) : oTr A A' := fun d hd => h d (by omega)
theorem rel_tr {k : Nat} {A B A' G : mM} (h : Rel k A B) (hA : oTr A A') (hB : o78 B G) (hc : Cl A' 20) : Rel (k + 1) A' (sr G (B 247)) := by
  refine (h.trial hA (fun d hd => ?_) hc).mono (by omega)
  by_cases e : d = 247
  · subst e; exact sr_247 _ _
  · rw [sr_o e]; exact hB d e hd
theorem cFore {A0 A : mM} {z : mR} (h0 : Rs A 0 z) (hi : rInv z) {n : Nat} (h : Rs A 20 (rTicks z n)) (hpk : A 20 10 = rPk z n) (x : Int32) (hx : 0 ≤ x.toInt ∧ x.toInt ≤ 3) : x5_foreseen x A = some (rAh z n x) := by
  obtain ⟨j, hj, rfl⟩ := inj_l (n := 3) hx (by decide)
  have hT := rTicks_inv hi n
  unfold x5_foreseen rAh
  rcases (show j = 0 ∨ j = 1 ∨ j = 2 ∨ j = 3 by omega) with rfl | rfl | rfl | rfl
  · rw [if_pos (show nI 0 = (0 : Int32) from rfl), if_pos (show nI 0 = (0 : Int32) from rfl), show A 20 7 = rTicks z n 80 from h.1.2.2.2.2.1, show A 0 7 = z 80 from h0.1.2.2.2.2.1]
  · rw [if_neg (show ¬ nI 1 = (0 : Int32) by decide), if_neg (show ¬ nI 1 = (0 : Int32) by decide), if_pos (show nI 1 = (1 : Int32) from rfl), if_pos (show nI 1 = (1 : Int32) from rfl), sDeep h hT, bs]
  · rw [if_neg (show ¬ nI 2 = (0 : Int32) by decide), if_neg (show ¬ nI 2 = (0 : Int32) by decide), if_neg (show ¬ nI 2 = (1 : Int32) by decide), if_neg (show ¬ nI 2 = (1 : Int32) by decide), if_pos (show nI 2 = (2 : Int32) from rfl), if_pos (show nI 2 = (2 : Int32) from rfl), sWaits h hT, bs, sWaits h0 hi, bs]
  · rw [if_neg (show ¬ nI 3 = (0 : Int32) by decide), if_neg (show ¬ nI 3 = (0 : Int32) by decide), if_neg (show ¬ nI 3 = (1 : Int32) by decide), if_neg (show ¬ nI 3 = (1 : Int32) by decide), if_neg (show ¬ nI 3 = (2 : Int32) by decide), if_neg (show ¬ nI 3 = (2 : Int32) by decide), if_pos (show nI 3 = (3 : Int32) from rfl), hpk]
/-- the class's trial: a copy, then so many ticks -/
theorem cTrial {A : mM} {z : mR} (h : Rs A 0 z) (hi : rInv z) (c0 : Cl A 0) (c1 : Cl A 20) {n : Nat} (hn : n < 1900) : ∃ A1 A2, x3_copyFrom 20 0 A = some A1 ∧ x3_pass 20 (nI n) A1 = some (rTicks z n 80 - z 80, A2) ∧ Rs A2 20 (rTicks z n) ∧ A2 20 10 = rPk z n ∧ oTr A A2 ∧ Cl A2 20 := by
  obtain ⟨A1, g1, g2, g3, g4⟩ := cCopy (c := 20) h hi c1 c0 (by omega)
  obtain ⟨A2, p1, p2, p3, p4⟩ := cPass g2 hi hn
  have hN := rTicks_N hi n
  have ho : oTr A A1 := fun d hd => g4 d (by omega)
  exact ⟨A1, A2, g1, p1, p2, p4, ho.tr (oTr.fr p3 hi.m), g3.step p2 (rTicks_inv hi n) (by rw [hN.2]; exact p3)⟩
theorem rel_ifRun {k : Nat} {A B : mM} (h : Rel k A B) (x1 x2 : Int32) : B2 k A B (x5_ifRun x1 x2 A) (x6_ifRun x1 x2 B) := by
  have hno : ∀ r : Int32, B2 k A B (some (r, A)) (some (r, B)) := fun r => ⟨_, _, _, rfl, rfl, h.mono (by omega)⟩
  have hi := h.1.2.1
  have e0 := lc x2 0 (k := 0) rfl
  have e4 := lc x2 4 (k := 4) rfl
  unfold x5_ifRun x6_ifRun
  rw [run_i, bs, ite10, wn x1 1 200 (l := 1) (h := 200) rfl rfl B, bs, ite10, wn x2 0 3 (l := 0) (h := 3) rfl rfl B, bs, ite10]
  by_cases w : 1 ≤ x1.toInt ∧ x1.toInt ≤ 200
  · rw [if_pos w, if_pos w]
    by_cases v : 0 ≤ x2.toInt ∧ x2.toInt ≤ 3
    · obtain ⟨n, hn, rfl⟩ := inj_l (n := 200) ⟨by omega, w.2⟩ (by decide)
      obtain ⟨A1, A2, a1, a2, a3, a4, a5, a6⟩ := cTrial h.1.1 hi (h.2.1 0 (by decide)) (h.2.1 1 (by decide)) (n := n) (by omega)
      obtain ⟨G1, b1, b2⟩ := eAhead B hi (n := n) (by omega) x2
      rw [sr_id] at b1
      rw [if_pos v, if_neg (show ¬ x2 < 0 from fun q => by have := e0.1.mp q; omega), if_pos (show x2 < (4 : Int32) from e4.1.mpr (by omega)), a1, bs, a2, bs, cFore (A0 := A) (h.1.1.o hi.n.2 hi.m (fun d _ hd => a5 d (by omega))) hi a3 a4 x2 v, bs, b1, bs]
      exact ⟨_, _, _, rfl, rfl, rel_tr h a5 b2 a6⟩
    · rw [if_neg v]
      by_cases q : x2 < 0
      · rw [if_pos q]; exact hno _
      · have q' : ¬ x2.toInt < 0 := fun r => q (e0.1.mpr r)
        rw [if_neg q, if_neg (show ¬ x2 < (4 : Int32) from fun r => by have := e4.1.mp r; omega)]; exact hno _
  · rw [if_neg w, if_neg w]; exact hno _
/-- the best of so many values of one number of the row -/
def rBst (z : mR) (idx n lo : Nat) : Nat → Int32 × Int32
  | 0 => (nI lo, -1)
  | i + 1 => if rTicks (upd z idx (nI (lo + i))) n 80 - z 80 ≤ (rBst z idx n lo i).2 then rBst z idx n lo i else (nI (lo + i), rTicks (upd z idx (nI (lo + i))) n 80 - z 80)
theorem eBest (G : mM) {z : mR} {idx n lo c : Nat} (hidx : idx < 82) (h80 : idx ≠ 80) (hlo : lo < 100) (hc : c < 100) (hn : n < 1900) (hv : ∀ i, i < c → rInv (upd z idx (nI (lo + i)))) (hc0 : 0 < lo + c) : ∃ G1, x6_best (nI idx) (nI lo) (nI (lo + c - 1)) (nI n) (sr G z) = some ((rBst z idx n lo c).1, sr G1 z) ∧ o78 G G1 := by
  have hLp := lpI (fun f (a : Int32 × Int32 × mM) i => x6_best_L17 (nI idx) (nI (lo + c - 1)) (nI n) (z idx) f a.1 a.2.1 i a.2.2) (fun a => (a.1, a.2.2)) (fun i a => lo ≤ i ∧ a.1 = (rBst z idx n lo (i - lo)).1 ∧ a.2.1 = (rBst z idx n lo (i - lo)).2 ∧ ∃ G1 v, a.2.2 = sr G1 (upd z idx v) ∧ o78 G G1) (lo + c) (fun f i a hi hI => ?_) (fun f a hI => ?_) c lo mFu (nI lo, -1, sr G z) rfl (by unfold mFu; omega) ⟨Nat.le_refl _, by rw [Nat.sub_self]; rfl, by rw [Nat.sub_self]; rfl, G, z idx, by rw [upd_same rfl], o78.rf⟩
  · obtain ⟨a', h1, -, h2, -, G1, v, h3, h4⟩ := hLp
    have h1' : x6_best_L17 (nI idx) (nI (lo + c - 1)) (nI n) (z idx) mFu (nI lo) (-1) (nI lo) (sr G z) = some (a'.1, a'.2.2) := h1
    refine ⟨G1, ?_, h4⟩
    unfold x6_best
    have e1 : sr G z 247 (nI idx).toNatClampNeg = z idx := by rw [jA_clamp (by omega), sr_247]
    rw [mCk_t (jA_in hidx (by decide)), mNm_e, e1, h1', bs, mCk_t (jA_in hidx (by decide)), mNm_e, jA_clamp (by omega), h3, sr_up, upd_upd, upd_same rfl, h2, show lo + c - lo = c by omega]
  · obtain ⟨w6, w7, g⟩ := a
    obtain ⟨hlo2, h1, h2, G1, v, h3, h4⟩ := hI
    dsimp only at h1 h2 h3
    subst h1 h2 h3
    have hw := hv (i - lo) (by omega)
    rw [show lo + (i - lo) = i by omega] at hw
    obtain ⟨G2, b1, b2⟩ := eAhead G1 hw hn 0
    have hval : rAh (upd z idx (nI i)) n 0 = rTicks (upd z idx (nI i)) n 80 - z 80 := by
      unfold rAh; rw [if_pos rfl, upd_n (Ne.symm h80)]
    have hstep : rBst z idx n lo (i + 1 - lo) = if rTicks (upd z idx (nI i)) n 80 - z 80 ≤ (rBst z idx n lo (i - lo)).2 then rBst z idx n lo (i - lo) else (nI i, rTicks (upd z idx (nI i)) n 80 - z 80) := by
      rw [show i + 1 - lo = (i - lo) + 1 by omega, rBst, show lo + (i - lo) = i by omega]
    show ∃ a' : Int32 × Int32 × mM, x6_best_L17 (nI idx) (nI (lo + c - 1)) (nI n) (z idx) (f + 1) _ _ (nI i) (sr G1 (upd z idx v)) = x6_best_L17 (nI idx) (nI (lo + c - 1)) (nI n) (z idx) f a'.1 a'.2.1 (nI (i + 1)) a'.2.2 ∧ _
    rw [x6_best_L17, if_neg (show ¬ nI (lo + c - 1) < nI i from fun q => by have := (jA_nlt (by omega) (by omega)).mp q; omega), mCk_t (jA_in hidx (by decide)), mNm_e, jA_clamp (by omega), sr_up, upd_upd, b1, bs, hval, mNm_e, mNm_e, mNm_e, mNm_e, jA_1]
    by_cases e : rTicks (upd z idx (nI i)) n 80 - z 80 ≤ (rBst z idx n lo (i - lo)).2
    · rw [if_pos e, if_pos e]
      rw [if_pos e] at hstep
      exact ⟨((rBst z idx n lo (i - lo)).1, (rBst z idx n lo (i - lo)).2, sr G2 (upd z idx (nI i))), rfl, by omega, by rw [hstep], by rw [hstep], G2, nI i, rfl, h4.tr b2⟩
    · rw [if_neg e, if_neg e]
      rw [if_neg e] at hstep
      exact ⟨(nI i, rTicks (upd z idx (nI i)) n 80 - z 80, sr G2 (upd z idx (nI i))), rfl, by omega, by rw [hstep], by rw [hstep], G2, nI i, rfl, h4.tr b2⟩
  · obtain ⟨w6, w7, g⟩ := a
    show x6_best_L17 (nI idx) (nI (lo + c - 1)) (nI n) (z idx) (f + 1) w6 w7 (nI (lo + c)) g = _
    rw [x6_best_L17, if_pos (show nI (lo + c - 1) < nI (lo + c) from (jA_nlt (by omega) (by omega)).mpr (by omega))]
/-- one trial of the class with one number of the row changed -/
theorem cTry {A G : mM} {z w : mR} (hi : rInv z) (hw : rInv w) (h80 : w 80 = z 80) (hM : rM w ≤ 4) {n d k : Nat} {v : Int32} (hn : n < 1900) (hd : 20 ≤ d ∧ d < 40) (h0 : Rs A 0 z) (c0 : Cl A 0) (hG : oTr A G) (c1 : Cl G 20) (hch : ∀ A1, Rs A1 20 z → Rs (up2 A1 d k v) 20 w) (hcl : ∀ A1, Cl A1 20 → Cl (up2 A1 d k v) 20) : ∃ A1 A2, x3_copyFrom 20 0 G = some A1 ∧ Rs A1 20 z ∧ x3_pass 20 (nI n) (up2 A1 d k v) = some (rTicks w n 80 - z 80, A2) ∧ oTr A A2 ∧ Cl A2 20 := by
  have g0 : Rs G 0 z := h0.o hi.n.2 hi.m (fun e _ he => hG e (by omega))
  have gc : Cl G 0 := c0.o (fun e _ he => hG e (by omega))
  obtain ⟨A1, g1, g2, g3, g4⟩ := cCopy (c := 20) g0 hi c1 gc (by omega)
  obtain ⟨A2, p1, p2, p3, p4⟩ := cPass (hch A1 g2) hw hn
  rw [h80] at p1
  have hN := rTicks_N hw n
  have ho : oTr G A1 := fun e he => g4 e (by omega)
  have ho2 : oTr A1 (up2 A1 d k v) := fun e he => up2_other (by omega)
  exact ⟨A1, A2, g1, g2, p1, ((hG.tr ho).tr ho2).tr (oTr.fr p3 hM), (hcl A1 g3).step p2 (rTicks_inv hw n) (by rw [hN.2]; exact p3)⟩
theorem rel_bestRule {k : Nat} {A B : mM} (h : Rel k A B) (x : Int32) : B2 k A B (x5_bestRule x A) (x6_bestRule x B) := by
  have hno : ∀ r : Int32, B2 k A B (some (r, A)) (some (r, B)) := fun r => ⟨_, _, _, rfl, rfl, h.mono (by omega)⟩
  have hi := h.1.2.1
  unfold x5_bestRule x6_bestRule
  rw [run_i, bs, ite10, wn x 1 200 (l := 1) (h := 200) rfl rfl B, bs, ite10]
  by_cases w : 1 ≤ x.toInt ∧ x.toInt ≤ 200
  · obtain ⟨n, hn, rfl⟩ := inj_l (n := 200) ⟨by omega, w.2⟩ (by decide)
    have hset : ∀ i, i < 3 → setL 2 (nI i) := fun i hi => ⟨fun e => absurd e (by decide), fun e => absurd e (by decide), fun _ => by
      rcases (show i = 0 ∨ i = 1 ∨ i = 2 by omega) with rfl | rfl | rfl
      · exact Or.inl rfl
      · exact Or.inr (Or.inl rfl)
      · exact Or.inr (Or.inr rfl)⟩
    have hv : ∀ i, i < 3 → rInv (upd (B 247) 77 (nI (0 + i))) := fun i hi3 => by rw [Nat.zero_add]; exact rInv_setv hi (j := 2) (by decide) (hset i hi3)
    obtain ⟨G1, b1, b2⟩ := eBest B (idx := 77) (n := n) (lo := 0) (c := 3) (by decide) (by decide) (by decide) (by decide) (by omega) hv (by decide)
    rw [sr_id] at b1
    rw [if_pos w, if_pos w, show x6_best 77 0 2 (nI n) B = _ from b1, bs, mNm_e, mNm_e, show mStat 1 2 = 0 by decide]
    have hLp := lpI (fun f (a : Int32 × Int32 × mM) i => x5_bestRule_L25 (nI n) f a.1 a.2.1 i a.2.2) (fun a => (a.1, a.2.2)) (fun i a => a.1 = (rBst (B 247) 77 n 0 i).1 ∧ a.2.1 = (rBst (B 247) 77 n 0 i).2 ∧ oTr A a.2.2 ∧ Cl a.2.2 20) 3 (fun f i a hi3 hI => ?_) (fun f a hI => ?_) 3 0 mFu (0, -1, A) rfl (by unfold mFu; decide) ⟨rfl, rfl, oTr.rf, h.2.1 1 (by decide)⟩
    · obtain ⟨a', h1, h2, -, h3, h4⟩ := hLp
      rw [show x5_bestRule_L25 (nI n) mFu 0 (-1) 0 A = some (a'.1, a'.2.2) from h1, bs]
      exact ⟨_, _, _, rfl, by rw [h2], rel_tr h h3 b2 h4⟩
    · obtain ⟨w2, w3, g⟩ := a
      obtain ⟨h1, h2, h3, h4⟩ := hI
      dsimp only at h1 h2 h3 h4
      subst h1 h2
      have hst := hset i hi3
      obtain ⟨A1, A2, q1, q2, q3, q4, q5⟩ := cTry hi (rInv_setv hi (j := 2) (by decide) hst) (upd_n (by decide)) (by rw [rM_upd (by decide)]; exact hi.m) (n := n) (d := 20 + 3) (k := 2) (v := nI i) (by omega) (by omega) h.1.1 (h.2.1 0 (by decide)) h3 h4 (fun A1 hA1 => Rs_setv hA1 hi (j := 2) (by decide) hst) (fun A1 hA1 => hA1.up (by omega) (by omega))
      have hstep : rBst (B 247) 77 n 0 (i + 1) = if rTicks (upd (B 247) 77 (nI i)) n 80 - B 247 80 ≤ (rBst (B 247) 77 n 0 i).2 then rBst (B 247) 77 n 0 i else (nI i, rTicks (upd (B 247) 77 (nI i)) n 80 - B 247 80) := by
        rw [rBst, Nat.zero_add]
      show ∃ a' : Int32 × Int32 × mM, x5_bestRule_L25 (nI n) (f + 1) _ _ (nI i) g = x5_bestRule_L25 (nI n) f a'.1 a'.2.1 (nI (i + 1)) a'.2.2 ∧ _
      rw [x5_bestRule_L25, if_neg (show ¬ mStat 2 2 < nI i from fun q => by have := (jA_nlt (a := 2) (by decide) (by omega)).mp q; omega), q1, bs, mNm_e, q3, bs, mNm_e, mNm_e, jA_1]
      by_cases e : rTicks (upd (B 247) 77 (nI i)) n 80 - B 247 80 ≤ (rBst (B 247) 77 n 0 i).2
      · rw [if_pos e] at hstep
        exact ⟨((rBst (B 247) 77 n 0 i).1, (rBst (B 247) 77 n 0 i).2, A2), if_pos e, by rw [hstep], by rw [hstep], q4, q5⟩
      · rw [if_neg e] at hstep
        exact ⟨(nI i, rTicks (upd (B 247) 77 (nI i)) n 80 - B 247 80, A2), if_neg e, by rw [hstep], by rw [hstep], q4, q5⟩
    · obtain ⟨w2, w3, g⟩ := a
      show x5_bestRule_L25 (nI n) (f + 1) w2 w3 (nI 3) g = _
      rw [x5_bestRule_L25, if_pos (show mStat 2 2 < nI 3 by decide)]
  · rw [if_neg w, if_neg w]; exact hno _
theorem rel_bestLoad {k : Nat} {A B : mM} (h : Rel k A B) (x1 x2 : Int32) : B2 k A B (x5_bestLoad x1 x2 A) (x6_bestLoad x1 x2 B) := by
  have hno : ∀ r : Int32, B2 k A B (some (r, A)) (some (r, B)) := fun r => ⟨_, _, _, rfl, rfl, h.mono (by omega)⟩
  have hi := h.1.2.1
  have hm := hi.m
  unfold x5_bestLoad x6_bestLoad
  rw [tA (h.1.1.m hi) hm, eIsTrain hi.zm hm, bs, bs, ite10]
  by_cases a : mIn x1 (rM (B 247))
  · obtain ⟨t, ht, rfl⟩ := mIn_nI a
    rw [if_pos a, mOs, if_pos a, run_i, bs, ite10, wn x2 1 200 (l := 1) (h := 200) rfl rfl B, bs, ite10]
    by_cases w : 1 ≤ x2.toInt ∧ x2.toInt ≤ 200
    · obtain ⟨n, hn, rfl⟩ := inj_l (n := 200) ⟨by omega, w.2⟩ (by decide)
      have hset : ∀ i, 1 ≤ i → i < 21 → rOk (B 247) 1 (nI i) := fun i h1 h2 => ⟨fun e => absurd e (by decide), fun _ => by rw [jA_n (by omega)]; omega, fun e => absurd e (by decide), fun e => absurd e (by decide), fun e => absurd e (by decide)⟩
      have hv : ∀ i, i < 20 → rInv (upd (B 247) (36 + 9 * t + 1) (nI (1 + i))) := fun i h3 => rInv_put hi ht (by decide) (hset (1 + i) (by omega) (by omega))
      obtain ⟨G1, b1, b2⟩ := eBest B (idx := 36 + 9 * t + 1) (n := n) (lo := 1) (c := 20) (by omega) (by omega) (by decide) (by decide) (by omega) hv (by decide)
      rw [sr_id] at b1
      rw [if_pos w, if_pos w, show (36 : Int32) + 9 * nI t + 1 = nI (36 + 9 * t + 1) from ixn 36 9 t 1, show x6_best (nI (36 + 9 * t + 1)) 1 20 (nI n) B = _ from b1, bs]
      have hLp := lpI (fun f (a : Int32 × Int32 × mM) i => x5_bestLoad_L29 (nI t) (nI n) f a.1 a.2.1 i a.2.2) (fun a => (a.1, a.2.2)) (fun i a => 1 ≤ i ∧ a.1 = (rBst (B 247) (36 + 9 * t + 1) n 1 (i - 1)).1 ∧ a.2.1 = (rBst (B 247) (36 + 9 * t + 1) n 1 (i - 1)).2 ∧ oTr A a.2.2 ∧ Cl a.2.2 20) 21 (fun f i a hi3 hI => ?_) (fun f a hI => ?_) 20 1 mFu (1, -1, A) rfl (by unfold mFu; decide) ⟨Nat.le_refl _, rfl, rfl, oTr.rf, h.2.1 1 (by decide)⟩
      · obtain ⟨a', h1, -, h2, -, h3, h4⟩ := hLp
        rw [show x5_bestLoad_L29 (nI t) (nI n) mFu 1 (-1) 1 A = some (a'.1, a'.2.2) from h1, bs]
        exact ⟨_, _, _, rfl, by rw [h2], rel_tr h h3 b2 h4⟩
      · obtain ⟨w2, w3, g⟩ := a
        obtain ⟨h1', h1, h2, h3, h4⟩ := hI
        dsimp only at h1 h2 h3 h4
        subst h1 h2
        have hst := hset i h1' hi3
        obtain ⟨A1, A2, q1, q2, q3, q4, q5⟩ := cTry hi (rInv_put hi ht (by decide) hst) (upd_n (by omega)) (by rw [rM_upd (by omega)]; exact hi.m) (n := n) (d := 20 + 16 + t) (k := 1) (v := nI i) (by omega) (by omega) h.1.1 (h.2.1 0 (by decide)) h3 h4 (fun A1 hA1 => Rs_tr hA1 hi ht (by decide) hst) (fun A1 hA1 => hA1.up (by omega) (by omega))
        have hstep : rBst (B 247) (36 + 9 * t + 1) n 1 (i + 1 - 1) = if rTicks (upd (B 247) (36 + 9 * t + 1) (nI i)) n 80 - B 247 80 ≤ (rBst (B 247) (36 + 9 * t + 1) n 1 (i - 1)).2 then rBst (B 247) (36 + 9 * t + 1) n 1 (i - 1) else (nI i, rTicks (upd (B 247) (36 + 9 * t + 1) (nI i)) n 80 - B 247 80) := by
          rw [show i + 1 - 1 = (i - 1) + 1 by omega, rBst, show 1 + (i - 1) = i by omega]
        show ∃ a' : Int32 × Int32 × mM, x5_bestLoad_L29 (nI t) (nI n) (f + 1) _ _ (nI i) g = x5_bestLoad_L29 (nI t) (nI n) f a'.1 a'.2.1 (nI (i + 1)) a'.2.2 ∧ _
        rw [x5_bestLoad_L29, if_neg (show ¬ (20 : Int32) < nI i from fun q => by have := (jA_nlt (a := 20) (by decide) (by omega)).mp q; omega), q1, bs, sTr q2 hi ht, bs, mOs, mNm_e, q3, bs, mNm_e, mNm_e, jA_1]
        by_cases e : rTicks (upd (B 247) (36 + 9 * t + 1) (nI i)) n 80 - B 247 80 ≤ (rBst (B 247) (36 + 9 * t + 1) n 1 (i - 1)).2
        · rw [if_pos e] at hstep
          exact ⟨((rBst (B 247) (36 + 9 * t + 1) n 1 (i - 1)).1, (rBst (B 247) (36 + 9 * t + 1) n 1 (i - 1)).2, A2), if_pos e, by omega, by rw [hstep], by rw [hstep], q4, q5⟩
        · rw [if_neg e] at hstep
          exact ⟨(nI i, rTicks (upd (B 247) (36 + 9 * t + 1) (nI i)) n 80 - B 247 80, A2), if_neg e, by omega, by rw [hstep], by rw [hstep], q4, q5⟩
      · obtain ⟨w2, w3, g⟩ := a
        show x5_bestLoad_L29 (nI t) (nI n) (f + 1) w2 w3 (nI 21) g = _
        rw [x5_bestLoad_L29, if_pos (show (20 : Int32) < nI 21 by decide)]
    · rw [if_neg w, if_neg w]; exact hno _
  · rw [if_neg a, mOn, if_neg a]; exact hno _
