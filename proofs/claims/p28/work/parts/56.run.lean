/-! run, undo, keep, back -/
theorem run_i (x : Int32) (G : mM) : x5_isRun x G = some (if 1 ≤ x.toInt ∧ x.toInt ≤ 200 then 1 else 0) := by
  have h1 := lc x 1 (k := 1) rfl
  have h2 := lc x 200 (k := 200) rfl
  unfold x5_isRun
  by_cases a : x < (1 : Int32)
  · rw [if_pos a, if_neg (fun q => by have := h1.1.mp a; omega)]
  · have a' : ¬ x.toInt < 1 := fun q => a (h1.1.mpr q)
    rw [if_neg a]
    by_cases b : (200 : Int32) < x
    · rw [if_pos b, if_neg (fun q => by have := h2.2.1.mp b; omega)]
    · have b' : ¬ (200 : Int) < x.toInt := fun q => b (h2.2.1.mpr q)
      rw [if_neg b, if_pos (by omega)]
theorem img_i (x : Int32) (G : mM) : x5_isImage x G = some (if 0 ≤ x.toInt ∧ x.toInt ≤ 1 then 1 else 0) := by
  have h1 := lc x 0 (k := 0) rfl
  have h2 := lc x 2 (k := 2) rfl
  unfold x5_isImage
  by_cases a : x < 0
  · rw [if_pos a, if_neg (fun q => by have := h1.1.mp a; omega)]
  · have a' : ¬ x.toInt < 0 := fun q => a (h1.1.mpr q)
    rw [if_neg a]
    by_cases b : (2 : Int32) ≤ x
    · rw [if_pos b, if_neg (fun q => by have := h2.2.2.2.mp b; omega)]
    · have b' : ¬ (2 : Int) ≤ x.toInt := fun q => b (h2.2.2.2.mpr q)
      rw [if_neg b, if_pos (by omega)]
theorem Del.run {k : Nat} {z : mR} (hi : rInv z) (h : Del k z) (hk : k < 3000) {n : Nat} (hn : n ≤ 200) : Del (k + 1) (rTicks z n) := by
  obtain ⟨h1, h2⟩ := rTicks_80 hi (B := 192000 * (k : Int)) (by omega) h n (by omega)
  exact ⟨h1, by omega⟩
theorem rel_run {k : Nat} {A B : mM} (h : Rel k A B) (hk : k < 3000) (x : Int32) : B2 k A B (x5_run x A) (x6_run x B) := by
  have hno : ∀ r : Int32, B2 k A B (some (r, A)) (some (r, B)) := fun r => ⟨_, _, _, rfl, rfl, h.mono (by omega)⟩
  obtain ⟨A', B', h1, h2, h3, h4, h5, h6, h7, h8, -⟩ := recThen h
  have hm := h5.m
  unfold x5_run x6_run
  rw [run_i, bs, ite10, wn x 1 200 (l := 1) (h := 200) rfl rfl B, bs, ite10]
  by_cases w : 1 ≤ x.toInt ∧ x.toInt ≤ 200
  · obtain ⟨n, hn, rfl⟩ := inj_l (n := 200) ⟨by omega, w.2⟩ (by decide)
    obtain ⟨A'', p1, p2, p3, p4⟩ := cPass h4 h5 (n := n) (by omega)
    rw [if_pos w, if_pos w, h1, h2, bs, bs, p1, bs, oT5, bs, eRunL _ h5 _ (by omega), bs, oT5, bs]
    have hN := rTicks_N h5 n
    refine ⟨_, A'', _, rfl, rfl, h3.put (by omega) (fun d hd => p3 d (by omega)) p2 (rTicks_inv h5 n) (h6.run h5 hk hn) (h7.step p2 (rTicks_inv h5 n) (by rw [hN.2]; exact p3))⟩
  · rw [if_neg w, if_neg w]
    exact hno _
/-- the present State becomes a row that is held elsewhere -/
theorem cpR_row {B : mM} {a o : Nat} : ∀ j, j < 82 → cpR B a o 247 0 82 247 j = rowAt B a o j := fun j hj => by
  unfold cpR rowAt
  rw [if_pos ⟨rfl, by omega, by omega⟩, Nat.sub_zero]
theorem rel_undo {k : Nat} {A B : mM} (h : Rel k A B) : B2 k A B (x5_undo A) (x6_undo B) := by
  have hno : ∀ r : Int32, B2 k A B (some (r, A)) (some (r, B)) := fun r => ⟨_, _, _, rfl, rfl, h.mono (by omega)⟩
  obtain ⟨h1, hc, ⟨n, t1, t2, t3, t4⟩, ⟨m, sc, a1, a2, a3, a4, a5, a6⟩, ⟨mk, b1, b2, b3, b4, b5⟩, hF⟩ := h
  unfold x5_undo x6_undo x0_size
  rw [bs, a2, a3]
  by_cases e : m = 0
  · subst e
    rw [if_pos (show nI 0 = 0 from rfl), if_pos (show nI 0 = 0 from rfl)]
    exact hno _
  · obtain ⟨q, rfl⟩ : ∃ q, m = q + 1 := ⟨m - 1, by omega⟩
    have hq : nI (q + 1) - (1 : Int32) = nI q := pk_sub (a := q + 1) (b := 1) (by omega)
    rw [if_neg (nI_ne e (by omega)), if_neg (nI_ne e (by omega)), mNm_e, hq, up2_same, show (82 : Int32) * nI q = nI (82 * q) from pk_mul 82 q]
    obtain ⟨j, j1, j2, j3⟩ := (a4 q (by omega)).2
    have r1 : RowOk k (up2 A 243 1 (nI q)) (sc q) (rowAt B 249 (82 * q)) := (a6 q (by omega)).o (fun d _ hd => up2_other (by omega))
    have r2 : Cl (up2 A 243 1 (nI q)) 0 := (hc 0 (by decide)).o (fun d _ hd => up2_other (by omega))
    have r3 : Cl (up2 A 243 1 (nI q)) (sc q) := by rw [j3]; exact (hc j (by omega)).o (fun d _ hd => up2_other (by omega))
    obtain ⟨A', g1, g2, g3, g4⟩ := cCopy r1.1 r1.2.1 r2 r3 (by omega)
    unfold x0_restore
    rw [a2, if_neg (show ¬ nI (q + 1) ≤ 0 from fun z => by have := (jA_nle (b := 0) (by omega) (by decide)).mp z; omega), if_neg (show ¬ (8 : Int32) < nI (q + 1) from fun z => by have := (jA_nlt (a := 8) (by decide) (by omega)).mp z; omega), mNm_e, hq, up2_same, mCk_t (jA_in (by omega) (by decide)), up2_other (show (244 : Nat) ≠ 243 by decide), jA_clamp (by omega), (a4 q (by omega)).1, jA_clamp (by omega), mCk_t (show mStP (sc q) from ⟨by omega, by omega⟩), g1, bs, bs, bs, show x6_copy 249 656 (nI (82 * q)) 247 82 0 (up2 B 246 2 (nI q)) = _ from eCopy _ (q := 0) (by decide) (by omega) (by decide) (by decide) (by decide), bs]
    have hA : ∀ d, 20 ≤ d → d ≠ 243 → A' d = A d := fun d hd hd2 => by rw [g4 d (by omega), up2_other hd2]
    have hB : ∀ d, d ≠ 247 → cpR (up2 B 246 2 (nI q)) 249 (82 * q) 247 0 82 d = up2 B 246 2 (nI q) d := fun d hd => cpR_o hd
    have hB2 : ∀ d, d ≠ 247 → d ≠ 246 → cpR (up2 B 246 2 (nI q)) 249 (82 * q) 247 0 82 d = B d := fun d hd hd2 => by rw [hB d hd, up2_other hd2]
    have hB3 : ∀ j, j ≠ 2 → cpR (up2 B 246 2 (nI q)) 249 (82 * q) 247 0 82 246 j = B 246 j := fun j hj => by rw [hB 246 (by decide), up2_ne (Or.inr hj)]
    refine ⟨nI q, A', _, by rw [g4 243 (by omega), up2_same], by rw [hB 246 (by decide), up2_same], ?_⟩
    refine ⟨?_, fun j hj => ?_, ⟨n, t1, by rw [hA _ (by decide) (by decide)]; exact t2, by rw [hB3 6 (by decide)]; exact t3, fun i hi => by rw [hA _ (by decide) (by decide), hB2 251 (by decide) (by decide)]; exact t4 i hi⟩, ⟨q, sc, by omega, by rw [g4 243 (by omega), up2_same], by rw [hB 246 (by decide), up2_same], fun i hi => by rw [hA _ (by decide) (by decide)]; exact a4 i hi, a5, fun i hi => ?_⟩, ⟨mk, b1, by rw [hA _ (by decide) (by decide)]; exact b2, by rw [hB3 4 (by decide)]; exact b3, fun z => ?_, fun z => ?_⟩, fun e he => by rw [hA _ (by omega) (by omega), hB2 _ (by omega) (by omega)]; exact hF e he⟩
    · have r4 : RowOk k A' 0 (rowAt B 249 (82 * q)) := ⟨g2, r1.2.1, r1.2.2⟩
      refine (r4.c (fun j hj => ?_)).mono (by omega)
      rw [cpR_row j hj]
      unfold rowAt
      rw [up2_other (by decide)]
    · by_cases e0 : j = 0
      · subst e0; exact g3
      · exact (hc j hj).o (fun d hd hd2 => hA d (by omega) (by omega))
    · obtain ⟨i2, i3, i4, i5⟩ := (a4 i (by omega)).2
      rw [rowAt_e (hB2 249 (by decide) (by decide))]
      exact ((a6 i (by omega)).o (fun d hd hd2 => hA d (by omega) (by omega))).mono (by omega)
    · rw [rowAt_e (hB2 250 (by decide) (by decide))]
      exact ((b4 z).o (fun d hd hd2 => hA d (by omega) (by omega))).mono (by omega)
    · rw [rowAt_e (hB2 250 (by decide) (by decide))]
      exact ((b5 z).o (fun d hd hd2 => hA d (by omega) (by omega))).mono (by omega)
theorem kbit : ∀ mk : Fin 4, ∀ j : Fin 2, nI mk.1 ||| ((1 : Int32) <<< (nI j.1 &&& 31)) = nI (mk.1 ||| (1 <<< j.1)) ∧ (mk.1 ||| (1 <<< j.1)) < 4 ∧ ((nI mk.1 &&& ((1 : Int32) <<< (nI j.1 &&& 31)) = 0) ↔ (((nI mk.1) >>> (nI j.1 &&& 31)) &&& (1 : Int32)) = 0) ∧ (¬ (nI mk.1 &&& ((1 : Int32) <<< (nI j.1 &&& 31)) = 0) → (j.1 = 0 → mk.1 % 2 = 1) ∧ (j.1 = 1 → 2 ≤ mk.1)) ∧ ((mk.1 ||| (1 <<< j.1)) % 2 = 1 → mk.1 % 2 = 1 ∨ j.1 = 0) ∧ (2 ≤ (mk.1 ||| (1 <<< j.1)) → 2 ≤ mk.1 ∨ j.1 = 1) := by decide
theorem rel_back {k : Nat} {A B : mM} (h : Rel k A B) (x : Int32) : B2 k A B (x5_back x A) (x6_back x B) := by
  have hno : ∀ r : Int32, B2 k A B (some (r, A)) (some (r, B)) := fun r => ⟨_, _, _, rfl, rfl, h.mono (by omega)⟩
  obtain ⟨A', B', h1, h2, h3, h4, h5, h6⟩ := recBoth h
  have h3' := h3
  obtain ⟨q1, hc, qt, qh, ⟨mk, b1, b2, b3, b4, b5⟩, -⟩ := h3'
  have kA : A 240 5 = nI mk := by rw [← h4 240 (Or.inr (by decide))]; exact b2
  have kB : B 246 4 = nI mk := by rw [← h6 4 (by decide)]; exact b3
  unfold x5_back x6_back
  rw [img_i, bs, ite10, wn x 0 1 (l := 0) (h := 1) rfl rfl B, bs, ite10]
  by_cases w : 0 ≤ x.toInt ∧ x.toInt ≤ 1
  · obtain ⟨j, hj, rfl⟩ := inj_l (n := 1) w (by decide)
    obtain ⟨-, -, k3, k4, -, -⟩ := kbit ⟨mk, b1⟩ ⟨j, by omega⟩
    dsimp only at k3 k4
    rw [if_pos w, if_pos w, kA, kB]
    by_cases e : nI mk &&& ((1 : Int32) <<< (nI j &&& 31)) = 0
    · rw [if_pos e, if_pos (k3.mp e)]
      exact hno _
    · have hrow : RowOk k A' (200 + 20 * j) (rowAt B' 250 (82 * j)) := by
        rcases (show j = 0 ∨ j = 1 by omega) with rfl | rfl
        · exact b4 ((k4 e).1 rfl)
        · exact b5 ((k4 e).2 rfl)
      obtain ⟨A2, g1, g2, g3, g4⟩ := cCopy (c := 0) hrow.1 hrow.2.1 (hc 0 (by decide)) (by have := hc (10 + j) (by omega); rwa [show 20 * (10 + j) = 200 + 20 * j by omega] at this) (by omega)
      rw [if_neg e, if_neg (fun z => e (k3.mpr z)), h1, h2, bs, bs, mCk_t (jA_in (by omega) (by decide)), jA_clamp (by omega), g1, bs, show (82 : Int32) * nI j = nI (82 * j) from pk_mul 82 j, show x6_copy 250 164 (nI (82 * j)) 247 82 0 B' = _ from eCopy _ (q := 0) (by decide) (by omega) (by decide) (by decide) (by decide), bs]
      have hr : RowOk k A2 0 (cpR B' 250 (82 * j) 247 0 82 247) := (show RowOk k A2 0 (rowAt B' 250 (82 * j)) from ⟨g2, hrow.2.1, hrow.2.2⟩).c (fun i hi => cpR_row i hi)
      exact ⟨_, _, _, rfl, by rw [show A2 0 9 = cpR B' 250 (82 * j) 247 0 82 247 74 from hr.1.1.2.2.2.2.2.2], h3.now (by omega) (fun d hd => g4 d (by omega)) (fun d hd => cpR_o hd) (hr.mono (by omega)) g3⟩
  · rw [if_neg w, if_neg w]
    exact hno _
