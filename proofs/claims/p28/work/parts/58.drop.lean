/-! ticksFor, dropTrain -/
theorem cTick0 {G : mM} {c : Nat} {z : mR} (h : Rs G c z) (hi : rInv z) : ∃ G', x3_tick c G = some G' ∧ Rs G' c (rTick z) ∧ fr c (rM z) G G' := by
  have hm := hi.m
  have i1 := rRnd_inv (z0 := z) (b := True) hi (k := rM z) (Nat.le_refl _)
  have m1 : rM (rRnd z True z (rM z)) = rM z := (rRnd_M hm).1
  have i2 := rRnd_inv (z0 := z) (b := False) i1 (k := rM z) (by rw [m1]; exact Nat.le_refl _)
  obtain ⟨G1, a1, a2, a3, a4, a5⟩ := cMarks h hi
  obtain ⟨G2, b1, b2, b3⟩ := cRnd hi a2 hi rfl True (Or.inl ⟨rfl, trivial⟩) a5
  obtain ⟨G3, d1, d2, d3⟩ := cRnd hi b2 i1 m1 False (Or.inr ⟨rfl, fun q => q⟩) (fun t ht => by rw [b3.2.1 t (by omega)]; exact a5 t ht)
  obtain ⟨G4, e1, e2, e3, e4⟩ := cSettle d2 i2
  have eM : rM (rRnd z False (rRnd z True z (rM z)) (rM z)) = rM z := by rw [(rRnd_M hm).1, (rRnd_M hm).1]
  rw [eM] at e3
  have i4 := rSinkN_inv i2 (Nat.le_refl _)
  have hL : x3_tick_L34 c mFu 0 G1 = some G3 := by
    unfold mFu
    rw [x3_tick_L34, if_neg (by decide), b1, bs, mNm_e]
    rw [x3_tick_L34, if_neg (by decide), show x3_tick_L41 c (0 + 1) mFu 0 G2 = some G3 from d1, bs, mNm_e]
    rw [x3_tick_L34, if_pos (by decide)]
  refine ⟨up2 G4 c 9 (G4 c 9 + 1), ?_, ?_, ((((a3.tr b3.1).tr d3.1).tr e3).tr (fr.up _ (by omega)))⟩
  · unfold x3_tick
    rw [a1, bs, hL, bs, e1, bs, mNm_e]
  · rw [e2.1.2.2.2.2.2.2]
    exact Rs_clock e2 i4
theorem tfB {z : mR} (hi : rInv z) {x : Int32} (hx : 1 ≤ x.toInt ∧ x.toInt ≤ 1000) {D : Int} (hD : D < 700000000) (h80 : 0 ≤ (z 80).toInt ∧ (z 80).toInt ≤ D) {A0 : mM} (h0 : A0 0 7 = z 80) : ∀ (k i n m : Nat) (A G : mM), i + k = 500 → k + 2 < n → k + 2 < m → Rs A 20 (rTicks z i) → Cl A 20 → oTr A0 A →
    (rTicks z i 80).toInt - (z 80).toInt < x.toInt →
    ∃ A' w, Cl A' 20 ∧ oTr A0 A' ∧ ((∃ r, r ≤ 500 ∧ x5_ticksFor_L28 x n (nI (i + 1)) A = some (1, nI r, A') ∧ x6_ticksUntil_L24 (z 80 + x) m (nI i) (sr G (rTicks z i)) = some (nI r, sr G w) ∧ w = rTicks z r ∧ z 80 + x ≤ w 80) ∨
      (x5_ticksFor_L28 x n (nI (i + 1)) A = some (0, 0, A') ∧ x6_ticksUntil_L24 (z 80 + x) m (nI i) (sr G (rTicks z i)) = some (nI 500, sr G w) ∧ w = rTicks z 500 ∧ ¬ z 80 + x ≤ w 80)) := by
  have hs : (z 80 + x).toInt = (z 80).toInt + x.toInt := jA_add (by omega) (by omega)
  have hb : ∀ i, i ≤ 501 → 0 ≤ (rTicks z i 80).toInt ∧ (rTicks z i 80).toInt ≤ D + 960 * (i : Int) := fun i h => rTicks_80 hi (by omega) h80 i (by omega)
  intro k
  induction k with
  | zero =>
    intro i n m A G hik hn hm hA hc ho hlt
    obtain ⟨n, rfl⟩ : ∃ q, n = q + 1 := ⟨n - 1, by omega⟩
    obtain ⟨m, rfl⟩ : ∃ q, m = q + 1 := ⟨m - 1, by omega⟩
    have e : i = 500 := by omega
    subst e
    refine ⟨A, _, hc, ho, Or.inr ⟨?_, ?_, rfl, ?_⟩⟩
    · rw [x5_ticksFor_L28, if_pos (show (500 : Int32) < nI (500 + 1) by decide)]
    · rw [x6_ticksUntil_L24, if_pos (show (500 : Int32) ≤ nI 500 by decide)]
    · rw [jA_le]; omega
  | succ k ih =>
    intro i n m A G hik hn hm hA hc ho hlt
    obtain ⟨n, rfl⟩ : ∃ q, n = q + 1 := ⟨n - 1, by omega⟩
    obtain ⟨m, rfl⟩ : ∃ q, m = q + 1 := ⟨m - 1, by omega⟩
    obtain ⟨A1, t1, t2, t3⟩ := cTick0 hA (rTicks_inv hi i)
    have hN := rTicks_N hi i
    have hm4 : rM (rTicks z i) ≤ 4 := by rw [hN.2]; exact hi.m
    have hA1 : Rs A1 20 (rTicks z (i + 1)) := t2
    have hc1 : Cl A1 20 := hc.step hA1 (rTicks_inv hi (i + 1)) (by rw [(rTicks_N hi (i + 1)).2, ← hN.2]; exact t3)
    have ho1 : oTr A0 A1 := ho.tr (oTr.fr t3 hm4)
    have hb1 := hb (i + 1) (by omega)
    have hb0 := hb i (by omega)
    have hd : (rTicks z (i + 1) 80 - z 80).toInt = (rTicks z (i + 1) 80).toInt - (z 80).toInt := jA_sub (by omega) (by omega)
    have hC : x5_ticksFor_L28 x (n + 1) (nI (i + 1)) A = if rTicks z (i + 1) 80 - z 80 < x then x5_ticksFor_L28 x n (nI (i + 1 + 1)) A1 else some (1, nI (i + 1), A1) := by
      rw [x5_ticksFor_L28, if_neg (show ¬ (500 : Int32) < nI (i + 1) from fun q => by have := (jA_nlt (a := 500) (by decide) (by omega)).mp q; omega), t1, bs, mNm_e, jA_1, show A1 20 7 = rTicks z (i + 1) 80 from hA1.1.2.2.2.2.1, show A1 0 7 = z 80 by rw [ho1 0 (by omega)]; exact h0]
    have hM : x6_ticksUntil_L24 (z 80 + x) (m + 1) (nI i) (sr G (rTicks z i)) = x6_ticksUntil_L24 (z 80 + x) m (nI (i + 1)) (sr G (rTicks z (i + 1))) := by
      rw [x6_ticksUntil_L24, if_neg (show ¬ (500 : Int32) ≤ nI i from fun q => by have := (jA_nle (a := 500) (by decide) (by omega)).mp q; omega), oT5, bs, if_neg (show ¬ z 80 + x ≤ rTicks z i 80 by rw [jA_le]; omega), eTick _ (rTicks_inv hi i), bs, mNm_e, jA_1]
      rfl
    rw [hC, hM]
    by_cases e : rTicks z (i + 1) 80 - z 80 < x
    · rw [if_pos e]
      rw [jA_lt] at e
      exact ih (i + 1) n m A1 G (by omega) (by omega) (by omega) hA1 hc1 ho1 (by omega)
    · rw [if_neg e]
      rw [jA_lt] at e
      have hle : z 80 + x ≤ rTicks z (i + 1) 80 := by rw [jA_le]; omega
      refine ⟨A1, _, hc1, ho1, Or.inl ⟨i + 1, by omega, rfl, ?_, rfl, hle⟩⟩
      obtain ⟨m, rfl⟩ : ∃ q, m = q + 1 := ⟨m - 1, by omega⟩
      rw [x6_ticksUntil_L24]
      by_cases e5 : (500 : Int32) ≤ nI (i + 1)
      · rw [if_pos e5]
      · rw [if_neg e5, oT5, bs, if_pos hle]
theorem rel_ticksFor {k : Nat} {A B : mM} (h : Rel k A B) (hk : k < 3000) (x : Int32) : B2 k A B (x5_ticksFor x A) (x6_ticksFor x B) := by
  have hno : ∀ r : Int32, B2 k A B (some (r, A)) (some (r, B)) := fun r => ⟨_, _, _, rfl, rfl, h.mono (by omega)⟩
  have e1 := lc x 1 (k := 1) rfl
  have e2 := lc x 1000 (k := 1000) rfl
  have hi := h.1.2.1
  have hD := h.1.2.2
  unfold x5_ticksFor x6_ticksFor
  rw [wn x 1 1000 (l := 1) (h := 1000) rfl rfl B, bs, ite10]
  by_cases w : 1 ≤ x.toInt ∧ x.toInt ≤ 1000
  · rw [if_pos w, if_neg (show ¬ x < (1 : Int32) from fun q => by have := e1.1.mp q; omega), if_pos (show x ≤ (1000 : Int32) from e2.2.2.1.mpr w.2)]
    obtain ⟨A1, g1, g2, g3, g4⟩ := cCopy (c := 20) h.1.1 hi (h.2.1 1 (by decide)) (h.2.1 0 (by decide)) (by omega)
    obtain ⟨G1, a1, a2, a3⟩ := eAside B (B 247)
    rw [sr_id] at a1
    have h07 : A 0 7 = B 247 80 := h.1.1.1.2.2.2.2.1
    obtain ⟨A2, w', c1, c2, c3⟩ := tfB hi w (D := 192000 * (k : Int)) (by omega) hD h07 500 0 mFu mFu A1 G1 rfl (by unfold mFu; decide) (by unfold mFu; decide) g2 g3 (fun d hd => g4 d (by omega)) (by show (B 247 80).toInt - _ < _; omega)
    unfold x6_ticksUntil
    have hback : ∀ r, w' = rTicks (B 247) r → x6_copy 248 82 0 247 82 0 (sr G1 w') = some (sr G1 (B 247)) := fun r hr => eUnaside G1 (B 247) w' a3 (fun j hj => by rw [hr]; exact rTicks_k hi (Or.inr (Or.inr (by omega))) r)
    rw [g1, bs, a1, bs, oT5, bs, mNm_e]
    rcases c3 with ⟨r, r0, r1, r2, r3, r4⟩ | ⟨r1, r2, r3, r4⟩
    · rw [show x5_ticksFor_L28 x mFu 1 A1 = some (1, nI r, A2) from r1, show x6_ticksUntil_L24 (B 247 80 + x) mFu 0 (sr G1 (B 247)) = some (nI r, sr G1 w') from r2, bs, bs, oT5, bs, if_pos r4, hback r r3, bs, bs, if_neg (show ¬ (1 : Nat) = 0 by decide)]
      exact ⟨_, _, _, rfl, rfl, rel_tr h c2 a2 c1⟩
    · rw [show x5_ticksFor_L28 x mFu 1 A1 = some (0, 0, A2) from r1, show x6_ticksUntil_L24 (B 247 80 + x) mFu 0 (sr G1 (B 247)) = some (nI 500, sr G1 w') from r2, bs, bs, oT5, bs, if_neg r4, hback 500 r3, bs, bs, if_pos rfl]
      exact ⟨_, _, _, rfl, rfl, rel_tr h c2 a2 c1⟩
  · rw [if_neg w]
    by_cases q : x < (1 : Int32)
    · rw [if_pos q]; exact hno _
    · have q' : ¬ x.toInt < 1 := fun r => q (e1.1.mpr r)
      rw [if_neg q, if_neg (show ¬ x ≤ (1000 : Int32) from fun r => by have := e2.2.2.1.mp r; omega)]; exact hno _
def shT (z : mR) (a i : Nat) : mR := fun k => if a ≤ k ∧ k < i then z (k + 9) else z k
theorem eShT (G : mM) {z : mR} (y : Int32) {t m : Nat} (htm : t < m) (hm : m ≤ 4) (h73 : z 73 = nI (m - 1)) : x6_dropTrain_L52 y mFu (nI (36 + 9 * t)) (sr G z) = some (sr G (shT z (36 + 9 * t) (36 + 9 * (m - 1)))) := by
  have hLp := lpI (fun f g i => x6_dropTrain_L52 y f i g) id (fun i g => 36 + 9 * t ≤ i ∧ g = sr G (shT z (36 + 9 * t) i)) (36 + 9 * (m - 1)) (fun f i g hi hI => ?_) (fun f g hI => ?_) (9 * (m - 1 - t)) (36 + 9 * t) mFu (sr G z) (by omega) (by unfold mFu; omega) ⟨Nat.le_refl _, by congr 1; funext k; unfold shT; rw [if_neg (by omega)]⟩
  · obtain ⟨g, h1, -, h2⟩ := hLp
    rw [show x6_dropTrain_L52 y mFu (nI (36 + 9 * t)) (sr G z) = some g from h1, h2]
  · obtain ⟨h8, rfl⟩ := hI
    show ∃ a', x6_dropTrain_L52 y (f + 1) (nI i) _ = x6_dropTrain_L52 y f (nI (i + 1)) a' ∧ _
    have e73 : sr G (shT z (36 + 9 * t) i) 247 73 = nI (m - 1) := by
      rw [sr_247]; unfold shT; rw [if_neg (by omega), h73]
    rw [x6_dropTrain_L52, e73, show (36 : Int32) + 9 * nI (m - 1) = nI (36 + 9 * (m - 1)) by rw [show (9 : Int32) * nI (m - 1) = nI (9 * (m - 1)) from pk_mul 9 (m - 1)]; exact nI_add 36 (9 * (m - 1)), if_neg (show ¬ nI (36 + 9 * (m - 1)) ≤ nI i from fun q => by have := (jA_nle (by omega) (by omega)).mp q; omega), show nI i + (9 : Int32) = nI (i + 9) from nI_add i 9, mCk_t (jA_in (by omega) (by decide)), mCk_t (jA_in (by omega) (by decide)), mNm_e, mNm_e, jA_1, jA_clamp (by omega), jA_clamp (by omega), sr_247, sr_up]
    refine ⟨_, rfl, by omega, ?_⟩
    congr 1
    funext k
    unfold upd shT
    by_cases e : k = i
    · subst e
      rw [if_pos rfl, if_neg (by omega), if_pos (by omega)]
    · rw [if_neg e]
      by_cases e2 : 36 + 9 * t ≤ k ∧ k < i
      · rw [if_pos e2, if_pos (by omega)]
      · rw [if_neg e2, if_neg (by omega)]
  · obtain ⟨h8, rfl⟩ := hI
    have e73 : sr G (shT z (36 + 9 * t) (36 + 9 * (m - 1))) 247 73 = nI (m - 1) := by
      rw [sr_247]; unfold shT; rw [if_neg (by omega), h73]
    show x6_dropTrain_L52 y (f + 1) (nI (36 + 9 * (m - 1))) _ = _
    rw [x6_dropTrain_L52, e73, show (36 : Int32) + 9 * nI (m - 1) = nI (36 + 9 * (m - 1)) by rw [show (9 : Int32) * nI (m - 1) = nI (9 * (m - 1)) from pk_mul 9 (m - 1)]; exact nI_add 36 (9 * (m - 1)), if_pos ((jA_nle (by omega) (by omega)).mpr (Nat.le_refl _))]
    rfl
theorem cShT {A : mM} {t m : Nat} (hm : m ≤ 4) (htm : t < m) (h4 : A 0 4 = nI m) (hc : ∀ j, j < 4 → A (16 + j) 4 = 0 ∨ A (16 + j) 4 = 1) : ∃ A', x3_loseTrain_L26 0 mFu (nI t) A = some A' ∧ (∀ e, e < 16 ∨ 20 ≤ e → A' e = A e) ∧ ∀ j, j < 4 → ∀ k, k < 9 → A' (16 + j) k = if t ≤ j ∧ j + 1 < m then A (16 + (j + 1)) k else A (16 + j) k := by
  have hLp := lpI (fun f g i => x3_loseTrain_L26 0 f i g) id (fun i g => t ≤ i ∧ (∀ e, e < 16 ∨ 20 ≤ e → g e = A e) ∧ (∀ j, i ≤ j → j < 4 → g (16 + j) = A (16 + j)) ∧ ∀ j, j < i → j < 4 → ∀ k, k < 9 → g (16 + j) k = if t ≤ j ∧ j + 1 < m then A (16 + (j + 1)) k else A (16 + j) k) 4 (fun f i g hi hI => ?_) (fun f g hI => ?_) (4 - t) t mFu A (by omega) (by unfold mFu; omega) ⟨Nat.le_refl _, fun _ _ => rfl, fun _ _ _ => rfl, fun j hj _ k _ => by rw [if_neg (by omega)]⟩
  · obtain ⟨g, h1, -, h2, -, h3⟩ := hLp
    exact ⟨g, h1, h2, fun j hj => h3 j hj hj⟩
  · obtain ⟨h1, h2, h3, h4'⟩ := hI
    have g4 : g 0 4 = nI m := by rw [h2 0 (by omega)]; exact h4
    show ∃ a', x3_loseTrain_L26 0 (f + 1) (nI i) g = x3_loseTrain_L26 0 f (nI (i + 1)) a' ∧ _
    rw [x3_loseTrain_L26, if_neg (k4 hi), tAn g4 hm (by omega), bs, show nI i + (1 : Int32) = nI (i + 1) from jA_1 i, tAn g4 hm (by omega)]
    by_cases e1 : i + 1 < m
    · rw [if_pos e1, if_pos (show i < m by omega), mOs, bs, mOs]
      have hb4 : g (0 + 16 + (i + 1)) 4 = 0 ∨ g (0 + 16 + (i + 1)) 4 = 1 := by
        rw [show 0 + 16 + (i + 1) = 16 + (i + 1) by omega, h3 (i + 1) (by omega) (by omega)]; exact hc (i + 1) (by omega)
      obtain ⟨g', x1, x2, x3, x4⟩ := x4c g (a := 0 + 16 + i) (b := 0 + 16 + (i + 1)) (by omega) hb4
      rw [x1, bs, mNm_e]
      refine ⟨g', rfl, by omega, fun e he => by rw [x2 e (by omega)]; exact h2 e he, fun j hj hj2 => by rw [x2 _ (by omega)]; exact h3 j (by omega) hj2, fun j hj hj2 k hk => ?_⟩
      by_cases e : j = i
      · subst e
        rw [if_pos ⟨h1, e1⟩, show 16 + j = 0 + 16 + j by omega, x3 k hk, show 0 + 16 + (j + 1) = 16 + (j + 1) by omega, h3 (j + 1) (by omega) (by omega)]
      · rw [x2 _ (by omega)]; exact h4' j (by omega) hj2 k hk
    · rw [if_neg e1]
      refine ⟨g, ?_, by omega, h2, fun j hj hj2 => h3 j (by omega) hj2, fun j hj hj2 k hk => ?_⟩
      · by_cases e2 : i < m
        · rw [if_pos e2, mOs, bs, mOn, mNm_e]
        · rw [if_neg e2, mOn, bs, mOn, mNm_e]
      · by_cases e : j = i
        · subst e
          rw [if_neg (by omega), h3 j (Nat.le_refl _) hj2]
        · exact h4' j (by omega) hj2 k hk
  · show x3_loseTrain_L26 0 (f + 1) (nI 4) g = _
    rw [x3_loseTrain_L26, if_pos k44]
    rfl
theorem rel_dropTrain {k : Nat} {A B : mM} (h : Rel k A B) (x1 : Int32) : B2 k A B (x5_dropTrain x1 A) (x6_dropTrain x1 B) := by
  have hno : ∀ r : Int32, B2 k A B (some (r, A)) (some (r, B)) := fun r => ⟨_, _, _, rfl, rfl, h.mono (by omega)⟩
  obtain ⟨A', B', h1, h2, h3, h4, h5, h6, h7, h8, -⟩ := recThen h
  have hm := h5.m
  have hn := h5.n
  unfold x5_dropTrain x6_dropTrain
  rw [tA (h.1.1.m h5) hm, eIsTrain h5.zm hm, bs, bs, ite10]
  by_cases a : mIn x1 (rM (B 247))
  · obtain ⟨t, ht, rfl⟩ := mIn_nI a
    obtain ⟨m, hmm⟩ : ∃ m, rM (B 247) = m := ⟨_, rfl⟩
    have h5m : B 247 73 = nI m := by rw [h5.zm, hmm]
    have h4m : A' 0 4 = nI m := by rw [h4.m h5, hmm]
    rw [if_pos a, mOs, if_pos a, h1, h2, bs, bs, mNm_e, jA_clamp (by omega), oF2 _ _ (by omega), bs, mNm_e, sr_247, sr_up, mNm_e, sr_247, sr_up, mNm_e, upd_n (show (73 : Nat) ≠ 81 by decide), h5m, show nI m - (1 : Int32) = nI (m - 1) from pk_sub (a := m) (b := 1) (by omega), show (36 : Int32) + 9 * nI t = nI (36 + 9 * t) by rw [show (9 : Int32) * nI t = nI (9 * t) from pk_mul 9 t]; exact nI_add 36 (9 * t), eShT _ _ (m := m) (by omega) (by omega) (upd_s _ _ _), bs]
    unfold x3_loseTrain
    rw [sTr h4 h5 ht, bs, mOs, mNm_e]
    obtain ⟨A2, c1, c2, c3⟩ := cShT (A := up2 A' 0 8 (A' 0 8 + A' (0 + 16 + t) 2)) (t := t) (m := m) (by omega) (by omega) (by rw [up2_ne (Or.inr (by decide))]; exact h4m) (fun j hj => by rw [up2_other (by omega)]; have := h7.2 j hj; rwa [Nat.zero_add] at this)
    have hA2 : ∀ j, j ≠ 8 → A2 0 j = A' 0 j := fun j hj => by rw [c2 0 (by omega), up2_ne (Or.inr hj)]
    rw [c1, bs, mNm_e, hA2 4 (by decide), h4m, show nI m - (1 : Int32) = nI (m - 1) from pk_sub (a := m) (b := 1) (by omega), h4.tr ht (k := 2) (by decide), bs]
    have hT : ∀ j, j < m - 1 → ∀ q, q < 9 → shT (upd (upd (B 247) 81 (B 247 81 + B 247 (36 + 9 * t + 2))) 73 (nI (m - 1))) (36 + 9 * t) (36 + 9 * (m - 1)) (36 + 9 * j + q) = B 247 (36 + 9 * (if t ≤ j then j + 1 else j) + q) := fun j hj q hq => by
      unfold shT
      by_cases e : t ≤ j
      · rw [if_pos (by omega), if_pos e, upd_n (by omega), upd_n (by omega)]
        congr 1
        omega
      · rw [if_neg (by omega), if_neg e, upd_n (by omega), upd_n (by omega)]
    have hK : ∀ j, (j < 36 ∨ (72 ≤ j ∧ j ≠ 73 ∧ j ≠ 81)) → shT (upd (upd (B 247) 81 (B 247 81 + B 247 (36 + 9 * t + 2))) 73 (nI (m - 1))) (36 + 9 * t) (36 + 9 * (m - 1)) j = B 247 j := fun j hj => by
      unfold shT
      rw [if_neg (by omega), upd_n (by omega), upd_n (by omega)]
    have h73 : shT (upd (upd (B 247) 81 (B 247 81 + B 247 (36 + 9 * t + 2))) 73 (nI (m - 1))) (36 + 9 * t) (36 + 9 * (m - 1)) 73 = nI (m - 1) := by
      unfold shT
      rw [if_neg (by omega), upd_s]
    have h81 : shT (upd (upd (B 247) 81 (B 247 81 + B 247 (36 + 9 * t + 2))) 73 (nI (m - 1))) (36 + 9 * t) (36 + 9 * (m - 1)) 81 = B 247 81 + B 247 (36 + 9 * t + 2) := by
      unfold shT
      rw [if_neg (by omega), upd_n (by omega), upd_s]
    revert hT hK h73 h81
    generalize shT (upd (upd (B 247) 81 (B 247 81 + B 247 (36 + 9 * t + 2))) 73 (nI (m - 1))) (36 + 9 * t) (36 + 9 * (m - 1)) = w
    intro hT hK h73 h81
    have hM : rM w = m - 1 := by unfold rM; rw [h73, jA_clamp (by omega)]
    have hw : rInv w := by
      refine rInv_gen h5 (fun j hj => hK j (by omega)) ⟨by omega, by rw [hM]; exact h73⟩ (by rw [hK 75 (by omega), hK 76 (by omega), hK 77 (by omega)]; exact h5.set) (fun j hj => ?_)
      rw [hM] at hj
      have e3 := hT j hj 3 (by decide)
      have hj' : (if t ≤ j then j + 1 else j) < rM (B 247) := by
        by_cases e : t ≤ j
        · rw [if_pos e]; omega
        · rw [if_neg e]; omega
      rw [hT j hj 0 (by decide), hT j hj 1 (by decide), hT j hj 2 (by decide), e3, hT j hj 4 (by decide), show rPl w j = rPl (B 247) (if t ≤ j then j + 1 else j) by unfold rPl; rw [e3]]
      exact h5.tr hj'
    refine ⟨_, up2 A2 0 4 (nI (m - 1)), sr B' w, rfl, rfl, h3.put (by omega) (fun d hd => by rw [up2_other (by omega), c2 d (by omega), up2_other (by omega)]) ?_ hw (h6.put (hK 80 (by omega))) ?_⟩
    · obtain ⟨a1, a2, a3, a4, a5, a6, a7⟩ := h4.1
      have hO : ∀ d, d ≠ 0 → d < 16 → up2 A2 0 4 (nI (m - 1)) d = A' d := fun d hd hd2 => by rw [up2_other hd, c2 d (by omega), up2_other hd]
      have hZ : ∀ j, j ≠ 4 → j ≠ 8 → up2 A2 0 4 (nI (m - 1)) 0 j = A' 0 j := fun j j1 j2 => by rw [up2_ne (Or.inr j1), hA2 j j2]
      refine Rs_gen h4 h5 hw (fun j hj => hK j (by omega)) (fun d d1 d2 => hO d (by omega) (by omega)) (hZ 3 (by decide) (by decide)) ⟨?_, ?_, ?_, ?_, ?_, ?_⟩ (by rw [hO (0 + 3) (by omega) (by omega), hK 75 (by omega), hK 76 (by omega), hK 77 (by omega)]; exact h4.set) (fun j hj q hq => ?_)
      · rw [up2_same, h73]
      · rw [hZ 5 (by decide) (by decide), hK 79 (by omega)]; exact a3
      · rw [hZ 6 (by decide) (by decide), hK 78 (by omega)]; exact a4
      · rw [hZ 7 (by decide) (by decide), hK 80 (by omega)]; exact a5
      · rw [up2_ne (Or.inr (by decide)), c2 0 (by omega), up2_same, h81, a6, h4.tr ht (k := 2) (by decide)]
      · rw [hZ 9 (by decide) (by decide), hK 74 (by omega)]; exact a7
      · rw [hM] at hj
        rw [hT j hj q hq, up2_other (by omega), show 0 + 16 + j = 16 + j by omega, c3 j (by omega) q hq]
        by_cases e : t ≤ j
        · rw [if_pos ⟨e, by omega⟩, if_pos e, up2_other (by omega), show 16 + (j + 1) = 0 + 16 + (j + 1) by omega]
          exact h4.tr (by omega) hq
        · rw [if_neg (fun r => e r.1), if_neg e, up2_other (by omega), show 16 + j = 0 + 16 + j by omega]
          exact h4.tr (by omega) hq
    · refine ⟨fun s hs => by rw [up2_other (by omega), c2 _ (by omega), up2_other (by omega)]; exact h7.1 s hs, fun j hj => ?_⟩
      rw [up2_other (by omega), show 0 + 16 + j = 16 + j by omega, c3 j hj 4 (by decide)]
      by_cases e : t ≤ j ∧ j + 1 < m
      · rw [if_pos e, up2_other (by omega)]; have := h7.2 (j + 1) (by omega); rwa [Nat.zero_add] at this
      · rw [if_neg e, up2_other (by omega)]; have := h7.2 j hj; rwa [Nat.zero_add] at this
  · rw [if_neg a, mOn, if_neg a]
    exact hno _
