/-! dig, setLoad, addTrain -/
theorem lc (x c : Int32) {k : Int} (hc : c.toInt = k) : (x < c ↔ x.toInt < k) ∧ (c < x ↔ k < x.toInt) ∧ (x ≤ c ↔ x.toInt ≤ k) ∧ (c ≤ x ↔ k ≤ x.toInt) := by
  rw [jA_lt, jA_lt, jA_le, jA_le, hc]
  exact ⟨Iff.rfl, Iff.rfl, Iff.rfl, Iff.rfl⟩
theorem eOther4 (B : mM) : x6_other 4 B = some (B 247 79) := by
  have := oT4 B (B 247)
  rwa [sr_id] at this
theorem wn (x lo hi : Int32) {l h : Int} (hl : lo.toInt = l) (hh : hi.toInt = h) (G : mM) : x6_within x lo hi G = some (if l ≤ x.toInt ∧ x.toInt ≤ h then 1 else 0) := by
  unfold x6_within
  by_cases a : x < lo
  · rw [if_pos a, if_neg (fun q => by rw [jA_lt] at a; omega)]
  · rw [if_neg a]
    rw [jA_lt] at a
    by_cases b : hi < x
    · rw [if_pos b, if_neg (fun q => by rw [jA_lt] at b; omega)]
    · rw [if_neg b]
      rw [jA_lt] at b
      rw [if_pos (by omega)]
theorem load_i (x : Int32) (G : mM) : x5_isLoad x G = some (if 1 ≤ x.toInt ∧ x.toInt ≤ 20 then 1 else 0) := by
  have h1 := lc x 1 (k := 1) rfl
  have h2 := lc x 20 (k := 20) rfl
  unfold x5_isLoad
  by_cases a : x < (1 : Int32)
  · rw [if_pos a, if_neg (fun q => by have := h1.1.mp a; omega)]
  · have a' : ¬ x.toInt < 1 := fun q => a (h1.1.mpr q)
    rw [if_neg a]
    by_cases b : (20 : Int32) < x
    · rw [if_pos b, if_neg (fun q => by have := h2.2.1.mp b; omega)]
    · have b' : ¬ (20 : Int) < x.toInt := fun q => b (h2.2.1.mpr q)
      rw [if_neg b, if_pos (by omega)]
theorem rel_dig {k : Nat} {A B : mM} (h : Rel k A B) (x : Int32) : B2 k A B (x5_dig x A) (x6_dig x B) := by
  have hno : ∀ r : Int32, B2 k A B (some (r, A)) (some (r, B)) := fun r => ⟨_, _, _, rfl, rfl, h.mono (by omega)⟩
  have e1 := lc x 1 (k := 1) rfl
  have e2 := lc x 1000 (k := 1000) rfl
  obtain ⟨A', B', h1, h2, h3, h4, h5, h6, h7, h8, -⟩ := recThen h
  unfold x5_dig x6_dig
  rw [wn x 1 1000 (l := 1) (h := 1000) rfl rfl B, bs, ite10]
  by_cases a : x < (1 : Int32)
  · rw [if_pos a, if_neg (fun q => by have := e1.1.mp a; omega)]
    exact hno _
  · have a' : ¬ x.toInt < 1 := fun q => a (e1.1.mpr q)
    rw [if_neg a]
    by_cases b : x ≤ (1000 : Int32)
    · have b' := e2.2.2.1.mp b
      rw [if_pos b, if_pos (show 1 ≤ x.toInt ∧ x.toInt ≤ 1000 by omega), eOther4, bs, show A 0 5 = B 247 79 from h.1.1.1.2.2.1]
      by_cases c : B 247 79 + x ≤ (5000 : Int32)
      · rw [if_pos c, if_pos c, h1, h2, bs, bs, mNm_e, mNm_e, mNm_e, sr_247, sr_up, mNm_e, sr_247, sr_up, oT4, bs, upd_s, upd_n (by decide), up2_ne (Or.inr (by decide)), up2_same, up2_ne (Or.inr (by decide)), show A' 0 5 = B 247 79 from h4.1.2.2.1, show A' 0 6 = B 247 78 from h4.1.2.2.2.1]
        refine ⟨_, _, _, rfl, rfl, h3.put (by omega) (fun d hd => by rw [up2_other (by omega), up2_other (by omega)]) ?_ (rInv_sc (rInv_sc h5 (by decide)) (by decide)) (h6.put (by rw [upd_n (by decide), upd_n (by decide)])) ((h7.up (by omega) (by omega)).up (by omega) (by omega))⟩
        rw [upd_swap _ _ _ (by decide)]
        exact Rs_dug (Rs_stock h4 h5) (rInv_sc h5 (by decide))
      · rw [if_neg c, if_neg c]
        exact hno _
    · have b' : ¬ x.toInt ≤ 1000 := fun q => b (e2.2.2.1.mpr q)
      rw [if_neg b, if_neg (by omega)]
      exact hno _
theorem eIsTrain {B : mM} {m : Nat} (hm : B 247 73 = nI m) (h4 : m ≤ 4) (x : Int32) : x6_isTrain x B = some (if mIn x m then 1 else 0) := by
  have hx := jA_rng x
  have h1 := lc x 0 (k := 0) rfl
  have h2 := @jA_in_iff x m
  have h3 : (nI m - (1 : Int32)).toInt = (m : Int) - 1 := by
    have := jA_n (n := m) (by omega)
    have e1 : (1 : Int32).toInt = 1 := rfl
    rw [jA_sub (by omega) (by omega)]; omega
  unfold x6_isTrain x6_within
  rw [hm]
  by_cases a : x < (0 : Int32)
  · rw [if_pos a, bs, mCk_t (Or.inl rfl), if_neg (fun q => by have := h1.1.mp a; have := (h2.mp q).1; omega)]
  · have a' : ¬ x.toInt < 0 := fun q => a (h1.1.mpr q)
    rw [if_neg a]
    by_cases b : nI m - (1 : Int32) < x
    · rw [if_pos b, bs, mCk_t (Or.inl rfl), if_neg (fun q => by have := (h2.mp q).2; rw [jA_lt, h3] at b; omega)]
    · rw [if_neg b, bs, mCk_t (Or.inr rfl), if_pos (h2.mpr (by rw [jA_lt, h3] at b; omega))]
theorem eIsSeg {B : mM} {m : Nat} (hm : B 247 72 = nI m) (h4 : m ≤ 12) (x : Int32) : x6_isSegment x B = some (if mIn x m then 1 else 0) := by
  have hx := jA_rng x
  have h1 := lc x 0 (k := 0) rfl
  have h2 := @jA_in_iff x m
  have h3 : (nI m - (1 : Int32)).toInt = (m : Int) - 1 := by
    have := jA_n (n := m) (by omega)
    have e1 : (1 : Int32).toInt = 1 := rfl
    rw [jA_sub (by omega) (by omega)]; omega
  unfold x6_isSegment x6_within
  rw [hm]
  by_cases a : x < (0 : Int32)
  · rw [if_pos a, bs, mCk_t (Or.inl rfl), if_neg (fun q => by have := h1.1.mp a; have := (h2.mp q).1; omega)]
  · have a' : ¬ x.toInt < 0 := fun q => a (h1.1.mpr q)
    rw [if_neg a]
    by_cases b : nI m - (1 : Int32) < x
    · rw [if_pos b, bs, mCk_t (Or.inl rfl), if_neg (fun q => by have := (h2.mp q).2; rw [jA_lt, h3] at b; omega)]
    · rw [if_neg b, bs, mCk_t (Or.inr rfl), if_pos (h2.mpr (by rw [jA_lt, h3] at b; omega))]
theorem mIn_nI {x : Int32} {m : Nat} (h : mIn x m) : ∃ j, j < m ∧ x = nI j := by
  obtain ⟨j, h1, h2, -⟩ := jA_of (jA_in_iff.mp h).1 (jA_in_iff.mp h).2
  exact ⟨j, h1, h2⟩
theorem rel_setLoad {k : Nat} {A B : mM} (h : Rel k A B) (x1 x2 : Int32) : B2 k A B (x5_setLoad x1 x2 A) (x6_setLoad x1 x2 B) := by
  have hno : ∀ r : Int32, B2 k A B (some (r, A)) (some (r, B)) := fun r => ⟨_, _, _, rfl, rfl, h.mono (by omega)⟩
  obtain ⟨A', B', h1, h2, h3, h4, h5, h6, h7, h8, -⟩ := recThen h
  have hm := h5.m
  unfold x5_setLoad x6_setLoad
  rw [tA (h.1.1.m h5) hm, eIsTrain h5.zm hm, bs, bs, ite10]
  by_cases a : mIn x1 (rM (B 247))
  · obtain ⟨t, ht, rfl⟩ := mIn_nI a
    rw [if_pos a, mOs, if_pos a, load_i, bs, ite10, wn x2 1 20 (l := 1) (h := 20) rfl rfl B, bs, ite10]
    by_cases b : 1 ≤ x2.toInt ∧ x2.toInt ≤ 20
    · have hok : rOk (B 247) 1 x2 := ⟨fun e => absurd e (by decide), fun _ => b, fun e => absurd e (by decide), fun e => absurd e (by decide), fun e => absurd e (by decide)⟩
      rw [if_pos b, if_pos b, h1, h2, bs, bs, mNm_e, mNm_e, oF1 _ _ (by omega), bs, pU1 _ _ (by omega), bs, jA_clamp (by omega), h4.tr ht (by decide)]
      exact ⟨_, _, _, rfl, rfl, h3.put (by omega) (fun d hd => up2_other (by omega)) (Rs_tr h4 h5 ht (by decide) hok) (rInv_put h5 ht (by decide) hok) (h6.put (upd_n (by omega))) (h7.up (by omega) (by omega))⟩
    · rw [if_neg b, if_neg b]
      exact hno _
  · rw [if_neg a, mOn, if_neg a]
    exact hno _
theorem putN (G : mM) (z : mR) {t k : Nat} (h : t < 5) (hk : k < 9) (v : Int32) : x6_put (nI t) (nI k) v (sr G z) = some (sr G (upd z (36 + 9 * t + k) v)) := by
  have q := ix (b := 36) (a := 9) (t := t) (k := k) (N := 82) (ixn 36 9 t k) (by omega) (by decide)
  unfold x6_put
  rw [mCk_t (show mIn ((36 : Int32) + (9 : Int32) * nI t + nI k) 82 from q.1), mNm_e, sr_up]
  exact congrArg (fun i => some (sr G (upd z i v))) q.2
def zrT (z : mR) (t i : Nat) : mR := fun k => if 36 + 9 * t ≤ k ∧ k < 36 + 9 * t + i then 0 else z k
theorem eZero (G : mM) (z : mR) (y1 y2 : Int32) {t : Nat} (h : t < 5) : x6_addTrain_L52 y1 y2 (nI t) mFu 0 (sr G z) = some (sr G (zrT z t 9)) := by
  have hLp := lpV (fun f g i => x6_addTrain_L52 y1 y2 (nI t) f i g) id (fun i => sr G (zrT z t i)) 9 (by decide) (fun f i hi => ?_) (fun f => ?_)
  · have e : zrT z t 0 = z := by funext k; unfold zrT; rw [if_neg (by omega)]
    simp only [e] at hLp
    exact hLp
  · show x6_addTrain_L52 y1 y2 (nI t) (f + 1) (nI i) (sr G (zrT z t i)) = x6_addTrain_L52 y1 y2 (nI t) f (nI (i + 1)) (sr G (zrT z t (i + 1)))
    rw [x6_addTrain_L52, if_neg (show ¬ (9 : Int32) ≤ nI i from fun q => by have := (jA_nle (a := 9) (by decide) (by omega)).mp q; omega), putN _ _ h hi, bs, mNm_e, jA_1]
    congr 2
    funext k
    unfold upd zrT
    by_cases e : k = 36 + 9 * t + i
    · subst e
      rw [if_pos rfl, if_pos (by omega)]
    · rw [if_neg e]
      by_cases e2 : 36 + 9 * t ≤ k ∧ k < 36 + 9 * t + i
      · rw [if_pos e2, if_pos (by omega)]
      · rw [if_neg e2, if_neg (by omega)]
  · show x6_addTrain_L52 y1 y2 (nI t) (f + 1) (nI 9) _ = _
    rw [x6_addTrain_L52, if_pos (show (9 : Int32) ≤ nI 9 from (jA_nle (a := 9) (by decide) (by decide)).mpr (by decide))]
    rfl
theorem eStart (d : Nat) (x1 x2 : Int32) (G : mM) : ∃ G', x4_start d x1 x2 G = some G' ∧ (∀ e, e ≠ d → G' e = G e) ∧ G' d 0 = x1 ∧ G' d 1 = x2 ∧ ∀ j, 2 ≤ j → j < 9 → G' d j = 0 := by
  unfold x4_start
  simp only [mNm_e]
  refine ⟨_, rfl, fun e he => by rw [up2_other he, up2_other he, up2_other he, up2_other he, up2_other he, up2_other he, up2_other he, up2_other he, up2_other he], ?_, ?_, fun j h1 h2 => ?_⟩
  · rw [up2_ne (Or.inr (by decide)), up2_ne (Or.inr (by decide)), up2_ne (Or.inr (by decide)), up2_ne (Or.inr (by decide)), up2_ne (Or.inr (by decide)), up2_ne (Or.inr (by decide)), up2_ne (Or.inr (by decide)), up2_ne (Or.inr (by decide)), up2_same]
  · rw [up2_ne (Or.inr (by decide)), up2_ne (Or.inr (by decide)), up2_ne (Or.inr (by decide)), up2_ne (Or.inr (by decide)), up2_ne (Or.inr (by decide)), up2_ne (Or.inr (by decide)), up2_ne (Or.inr (by decide)), up2_same]
  · unfold up2
    rcases (show j = 2 ∨ j = 3 ∨ j = 4 ∨ j = 5 ∨ j = 6 ∨ j = 7 ∨ j = 8 by omega) with rfl | rfl | rfl | rfl | rfl | rfl | rfl <;> simp
theorem rel_addTrain {k : Nat} {A B : mM} (h : Rel k A B) (x1 x2 : Int32) : B2 k A B (x5_addTrain x1 x2 A) (x6_addTrain x1 x2 B) := by
  have hno : ∀ r : Int32, B2 k A B (some (r, A)) (some (r, B)) := fun r => ⟨_, _, _, rfl, rfl, h.mono (by omega)⟩
  obtain ⟨A', B', h1, h2, h3, h4, h5, h6, h7, h8, -⟩ := recThen h
  have hm := h5.m
  have hn := h5.n
  have e1 := lc x1 1 (k := 1) rfl
  have e2 := lc x1 6 (k := 6) rfl
  unfold x5_addTrain x6_addTrain
  rw [wn x1 1 6 (l := 1) (h := 6) rfl rfl B, bs, ite10]
  by_cases a : x1 < (1 : Int32)
  · rw [if_pos a, if_neg (fun q => by have := e1.1.mp a; omega)]
    exact hno _
  · have a' : ¬ x1.toInt < 1 := fun q => a (e1.1.mpr q)
    rw [if_neg a]
    by_cases b : (6 : Int32) < x1
    · rw [if_pos b, if_neg (fun q => by have := e2.2.1.mp b; omega)]
      exact hno _
    · have b' : ¬ (6 : Int) < x1.toInt := fun q => b (e2.2.1.mpr q)
      rw [if_neg b, if_pos (show 1 ≤ x1.toInt ∧ x1.toInt ≤ 6 by omega), load_i, bs, ite10, wn x2 1 20 (l := 1) (h := 20) rfl rfl B, bs, ite10]
      by_cases d : 1 ≤ x2.toInt ∧ x2.toInt ≤ 20
      · rw [if_pos d, if_pos d, h.1.1.m h5, h5.zm]
        by_cases e : rM (B 247) = 4
        · rw [e, if_neg (show ¬ nI 4 < (4 : Int32) by decide), if_pos (show nI 4 = (4 : Int32) from rfl)]
          exact hno _
        · rw [if_pos (show nI (rM (B 247)) < (4 : Int32) from (jA_nlt (b := 4) (by omega) (by decide)).mpr (by omega)), if_neg (show ¬ nI (rM (B 247)) = (4 : Int32) from fun q => e ((jA_neq (b := 4) (by omega) (by decide)).mp q)), h1, h2, bs, bs, mNm_e, sr_247, h5.zm, eZero _ _ _ _ (by omega), bs, pU0 _ _ (by omega), bs, pU1 _ _ (by omega), bs, mNm_e, sr_247, sr_up]
          obtain ⟨m, hmm⟩ : ∃ m, rM (B 247) = m := ⟨_, rfl⟩
          rw [hmm] at hm e ⊢
          have h73 : upd (upd (zrT (B 247) m 9) (36 + 9 * m + 0) x1) (36 + 9 * m + 1) x2 73 = nI m := by
            rw [upd_n (by omega), upd_n (by omega)]; unfold zrT; rw [if_neg (by omega), h5.zm, hmm]
          rw [h73, jA_1]
          unfold x3_bringTrain
          rw [mNm_e, up2_same, h4.m h5, hmm, jA_1, show nI (m + 1) - (1 : Int32) = nI m from pk_sub (a := m + 1) (b := 1) (by omega), tAn (m := m + 1) (up2_same _ _ _ _) (by omega) (by omega), bs, if_pos (by omega), mOs]
          obtain ⟨G', s1, s2, s3, s4, s5⟩ := eStart (0 + 16 + m) x1 x2 (up2 A' 0 4 (nI (m + 1)))
          have hz : G' 0 = up2 A' 0 4 (nI (m + 1)) 0 := s2 0 (by omega)
          rw [s1, bs, bs, hz, up2_same, show nI (m + 1) - (1 : Int32) = nI m from pk_sub (a := m + 1) (b := 1) (by omega)]
          have hM : rM (upd (upd (upd (zrT (B 247) m 9) (36 + 9 * m + 0) x1) (36 + 9 * m + 1) x2) 73 (nI (m + 1))) = m + 1 := by
            unfold rM; rw [upd_s, jA_clamp (by omega)]
          have hk : ∀ j, j ≠ 73 → (j < 36 + 9 * m ∨ 36 + 9 * m + 9 ≤ j) → upd (upd (upd (zrT (B 247) m 9) (36 + 9 * m + 0) x1) (36 + 9 * m + 1) x2) 73 (nI (m + 1)) j = B 247 j := fun j hj hj2 => by
            rw [upd_n hj, upd_n (by omega), upd_n (by omega)]; unfold zrT; rw [if_neg (by omega)]
          have hf0 : upd (upd (upd (zrT (B 247) m 9) (36 + 9 * m + 0) x1) (36 + 9 * m + 1) x2) 73 (nI (m + 1)) (36 + 9 * m + 0) = x1 := by
            rw [upd_n (by omega), upd_n (by omega), upd_s]
          have hf1 : upd (upd (upd (zrT (B 247) m 9) (36 + 9 * m + 0) x1) (36 + 9 * m + 1) x2) 73 (nI (m + 1)) (36 + 9 * m + 1) = x2 := by
            rw [upd_n (by omega), upd_s]
          have hf2 : ∀ j, 2 ≤ j → j < 9 → upd (upd (upd (zrT (B 247) m 9) (36 + 9 * m + 0) x1) (36 + 9 * m + 1) x2) 73 (nI (m + 1)) (36 + 9 * m + j) = 0 := fun j hj hj2 => by
            rw [upd_n (by omega), upd_n (by omega), upd_n (by omega)]; unfold zrT; rw [if_pos (by omega)]
          have h73' : upd (upd (upd (zrT (B 247) m 9) (36 + 9 * m + 0) x1) (36 + 9 * m + 1) x2) 73 (nI (m + 1)) 73 = nI (m + 1) := upd_s _ _ _
          revert hM hk hf0 hf1 hf2 h73'
          generalize upd (upd (upd (zrT (B 247) m 9) (36 + 9 * m + 0) x1) (36 + 9 * m + 1) x2) 73 (nI (m + 1)) = w
          intro hM hk hf0 hf1 hf2 h73'
          have hp : rPl w m = 0 := by unfold rPl; rw [hf2 3 (by decide) (by decide)]; rfl
          have htr : ∀ t, t < m + 1 → t ≠ m → t < rM (B 247) ∧ ∀ j, j < 9 → w (36 + 9 * t + j) = B 247 (36 + 9 * t + j) := fun t ht ht2 => ⟨by omega, fun j hj => hk _ (by omega) (by omega)⟩
          have hw : rInv w := by
            refine rInv_gen h5 (fun j hj => hk j (by omega) (by omega)) ⟨by omega, by rw [hM]; exact h73'⟩ (by rw [hk 75 (by decide) (by omega), hk 76 (by decide) (by omega), hk 77 (by decide) (by omega)]; exact h5.set) (fun t ht => ?_)
            rw [hM] at ht
            by_cases e3 : t = m
            · subst e3
              rw [hf0, hf1, hf2 2 (by decide) (by decide), hf2 3 (by decide) (by decide), hf2 4 (by decide) (by decide), hp]
              exact ⟨by omega, d, ⟨by decide, by decide⟩, ⟨by omega, rfl⟩, Or.inl rfl⟩
            · obtain ⟨q1, q2⟩ := htr t ht e3
              rw [q2 0 (by decide), q2 1 (by decide), q2 2 (by decide), q2 3 (by decide), q2 4 (by decide), show rPl w t = rPl (B 247) t by unfold rPl; rw [q2 3 (by decide)]]
              exact h5.tr q1
          refine ⟨nI m, G', sr B' w, rfl, rfl, h3.put (by omega) (fun q hq => ?_) ?_ hw (h6.put (hk 80 (by decide) (by omega))) ?_⟩
          · rw [s2 q (by omega), up2_other (by omega)]
          · have g1 : ∀ j, j ≠ 4 → G' 0 j = A' 0 j := fun j hj => by rw [hz, up2_ne (Or.inr hj)]
            have g3 : G' (0 + 3) = A' (0 + 3) := by rw [s2 _ (by omega), up2_other (by decide)]
            obtain ⟨a1, a2, a3, a4, a5, a6, a7⟩ := h4.1
            refine Rs_gen h4 h5 hw (fun j hj => hk j (by omega) (by omega)) (fun q q1 q2 => by rw [s2 q (by omega), up2_other (by omega)]) (g1 3 (by decide)) ⟨?_, ?_, ?_, ?_, ?_, ?_⟩ (by rw [g3, hk 75 (by decide) (by omega), hk 76 (by decide) (by omega), hk 77 (by decide) (by omega)]; exact h4.set) (fun t ht j hj => ?_)
            · rw [hz, up2_same, h73']
            · rw [g1 5 (by decide), hk 79 (by decide) (by omega)]; exact a3
            · rw [g1 6 (by decide), hk 78 (by decide) (by omega)]; exact a4
            · rw [g1 7 (by decide), hk 80 (by decide) (by omega)]; exact a5
            · rw [g1 8 (by decide), hk 81 (by decide) (by omega)]; exact a6
            · rw [g1 9 (by decide), hk 74 (by decide) (by omega)]; exact a7
            · rw [hM] at ht
              by_cases e3 : t = m
              · subst e3
                by_cases j0 : j = 0
                · subst j0; rw [s3, hf0]
                · by_cases j1 : j = 1
                  · subst j1; rw [s4, hf1]
                  · rw [s5 j (by omega) hj, hf2 j (by omega) hj]
              · obtain ⟨q1, q2⟩ := htr t ht e3
                rw [q2 j hj, s2 _ (by omega), up2_other (by omega)]
                exact h4.tr q1 hj
          · refine ⟨fun s hs => by rw [s2 _ (by omega), up2_other (by omega)]; exact h7.1 s hs, fun t ht => ?_⟩
            by_cases e3 : t = m
            · subst e3; rw [s5 4 (by decide) (by decide)]; exact Or.inl rfl
            · rw [s2 _ (by omega), up2_other (by omega)]; exact h7.2 t ht
      · rw [if_neg d, if_neg d]
        exact hno _
