/-! layTrack -/
theorem rel_layTrack {k : Nat} {A B : mM} (h : Rel k A B) : B2 k A B (x5_layTrack A) (x6_layTrack B) := by
  obtain ⟨r, B1, f1, f2, f3, f4⟩ := faultBoth h
  unfold x5_layTrack x6_layTrack
  rw [f1, f2, bs, bs]
  by_cases e : r = -1
  · obtain ⟨len, p, b, l1, l2, l3, l4, l5, l6⟩ := f4 e
    obtain ⟨n, hn, ha, hb, hc⟩ := h.2.2.1
    have hln : n = len := (jA_neq (by omega) (by omega)).mp (ha.symm.trans l2)
    subst hln
    obtain ⟨A', B', h1, h2, h3, h4, h5, h6, h7, h8, h9, h10, h11, h12⟩ := recThen (h.f89 f3)
    rw [if_pos e, if_pos e, h1, h2, bs, bs, ePeat _ h5, bs, mNm_e, sr_247, sr_up, mNm_e, sr_up, mNm_e, sr_up]
    unfold x3_loseAllTrains
    rw [sPeat h4 h5, bs, mNm_e, mNm_e, bs]
    unfold x1_layOnto x3_beginTrack
    rw [mNm_e, bs]
    obtain ⟨G', w', p', b', t1, t2, t3, ⟨L1, L2, L3⟩, F1, F2⟩ := layB (cd := B 251) (len := n) hn (by rw [l3]; exact fun q => by cases q) (G0 := up2 (up2 (up2 A' 0 8 (A' 0 8 + rPeat (B1 247))) 0 4 0) 0 3 0) (H := B') (w0 := upd (upd (upd (B1 247) 81 (B1 247 81 + rPeat (B1 247))) 73 0) 72 0)
      (by rw [up2_other (by decide), up2_other (by decide), up2_other (by decide), h9]; exact ha) (fun i hi => by rw [up2_other (by decide), up2_other (by decide), up2_other (by decide), h10]; exact (hc i hi).1) (by rw [h12, f3.2 6 (by decide) (by decide)]; exact hb) (fun i _ => by rw [h11, f3.1 251 (by decide)]) n 0 mFu mFu 0 0 _ _ (by omega) (by unfold mFu; omega) (by unfold mFu; omega) rfl ⟨up2_same _ _ _ _, upd_s _ _ _, fun s hs => absurd hs (by omega)⟩ FrC.rf (fun _ _ _ => rfl)
    rw [l3] at t1
    cases t1
    have t2' : x1_layOnto_L6 0 mFu 0 (up2 (up2 (up2 A' 0 8 (A' 0 8 + rPeat (B1 247))) 0 4 0) 0 3 0) = some G' := t2
    have t3' : x6_layTrack_L47 mFu 0 (sr B' (upd (upd (upd (B1 247) 81 (B1 247 81 + rPeat (B1 247))) 73 0) 72 0)) = some (sr B' w') := t3
    have fp := flagPut B' w' (b := b) (by omega) L2
    rw [t2', bs, t3', bs, mCk_t fp.1, mNm_e, fp.2, sr_up, mNm_e]
    have w1 : ∀ j, 36 ≤ j → j ≠ 72 → j ≠ 73 → j ≠ 81 → w' j = B1 247 j := fun j j1 j2 j3 j4 => by rw [F2 j j1 j2, upd_n j2, upd_n j3, upd_n j4]
    have w73 : w' 73 = 0 := by rw [F2 73 (by decide) (by decide), upd_n (by decide), upd_s]
    have w81 : w' 81 = B1 247 81 + rPeat (B1 247) := by rw [F2 81 (by decide) (by decide), upd_n (by decide), upd_n (by decide), upd_s]
    have z1 : ∀ j, j % 3 ≠ 1 ∨ 36 ≤ j → upd w' (3 * (b - 1) + 1) 1 j = w' j := fun j hj => upd_n (by omega)
    have z3 : ∀ s, s < b → s + 1 ≠ b → upd w' (3 * (b - 1) + 1) 1 (3 * s + 1) = w' (3 * s + 1) := fun s hs hs2 => upd_n (by omega)
    have z4 : upd w' (3 * (b - 1) + 1) 1 (3 * (b - 1) + 1) = 1 := upd_s _ _ _
    revert z1 z3 z4
    generalize upd w' (3 * (b - 1) + 1) 1 = zf
    intro z1 z3 z4
    have hN : rN zf = b := by unfold rN; rw [z1 72 (by decide), L2, jA_clamp (by omega)]
    have hM : rM zf = 0 := by unfold rM; rw [z1 73 (by decide), w73]; rfl
    have hfl : ∀ s, s < b → zf (3 * s + 1) = 0 ∨ zf (3 * s + 1) = 1 := fun s hs => by
      by_cases e1 : s + 1 = b
      · rw [show s = b - 1 by omega, z4]; exact Or.inr rfl
      · rw [z3 s hs e1]
        rcases (L3 s hs).2.2.2.2 with q | q
        · exact Or.inr q.2
        · rw [q.2]
          by_cases e0 : s = 0
          · rw [if_pos e0]; exact Or.inr rfl
          · rw [if_neg e0]; exact Or.inl rfl
    have hi : rInv zf := by
      refine ⟨⟨by omega, by omega, by omega⟩, by rw [hN, z1 72 (by decide)]; exact L2, by rw [hM, z1 73 (by decide), w73]; rfl, by rw [z1 75 (by decide), z1 76 (by decide), z1 77 (by decide), w1 75 (by decide) (by decide) (by decide) (by decide), w1 76 (by decide) (by decide) (by decide) (by decide), w1 77 (by decide) (by decide) (by decide) (by decide)]; exact h5.set, ⟨?_, by rw [hN]; exact z4⟩, fun s hs => ?_, fun t ht => ?_⟩
      · have := z3 0 (by omega) (by omega)
        rw [show 3 * 0 + 1 = 1 from rfl] at this
        rw [this]
        rcases (L3 0 (by omega)).2.2.2.2 with q | q
        · exact q.2
        · exact q.2.trans (if_pos rfl)
      · rw [hN] at hs
        obtain ⟨c1, c2, c3, c4, c5⟩ := L3 s hs
        rw [z1 (3 * s) (by omega), z1 (3 * s + 2) (by omega), c3]
        exact ⟨hfl s hs, c4, by decide, by decide⟩
      · rw [hM] at ht; exact absurd ht (by omega)
    obtain ⟨A2, g1, g2, g3⟩ := cEnd hi (A := G') (by rw [hN]; exact L1) (fun s hs s0 s1 => by
      rw [hN] at hs s1
      unfold rRoom
      rw [if_neg (show ¬ rEnd zf s from fun q => by rcases q with q | q <;> omega)]
      have ez := z3 s hs s1
      rcases (L3 s hs).2.2.2.2 with q | q
      · rw [if_pos (show rPs zf s from ez.trans q.2)]; exact q.1
      · have q2 := q.2
        rw [if_neg s0] at q2
        rw [if_neg (show ¬ rPs zf s from fun r => one_ne (r.symm.trans (ez.trans q2)))]; exact q.1)
    have hO : ∀ d, d ≠ 0 → (d < 4 ∨ 16 ≤ d) → A2 d = A' d := fun d hd hd2 => by rw [g2 d hd2, F1.1 d hd hd2, up2_other hd, up2_other hd, up2_other hd]
    have hZ : ∀ j, j ≠ 3 → A2 0 j = up2 (up2 A' 0 8 (A' 0 8 + rPeat (B1 247))) 0 4 0 0 j := fun j hj => by rw [g2 0 (by omega), F1.2.1 j hj, up2_ne (Or.inr hj)]
    have hZ2 : ∀ j, j ≠ 3 → j ≠ 4 → j ≠ 8 → A2 0 j = A' 0 j := fun j j1 j2 j3 => by rw [hZ j j1, up2_ne (Or.inr j2), up2_ne (Or.inr j3)]
    obtain ⟨a1, a2, a3, a4, a5, a6, a7⟩ := h4.1
    have zk : ∀ j, 36 ≤ j → j ≠ 72 → j ≠ 73 → j ≠ 81 → zf j = B1 247 j := fun j j1 j2 j3 j4 => (z1 j (Or.inr j1)).trans (w1 j j1 j2 j3 j4)
    have z72' : zf 72 = nI b := (z1 72 (by decide)).trans L2
    have h03 : A2 0 3 = nI b := by rw [g2 0 (by omega)]; exact L1
    have hR : Rs A2 0 zf := by
      refine ⟨⟨?_, ?_, ?_, ?_, ?_, ?_, ?_⟩, ?_, fun s hs => ?_, fun s hs => ?_, fun t ht => ?_⟩
      · rw [h03, z72']
      · rw [hZ 4 (by decide), up2_same, z1 73 (by decide), w73]
      · rw [hZ2 5 (by decide) (by decide) (by decide), zk 79 (by decide) (by decide) (by decide) (by decide)]; exact a3
      · rw [hZ2 6 (by decide) (by decide) (by decide), zk 78 (by decide) (by decide) (by decide) (by decide)]; exact a4
      · rw [hZ2 7 (by decide) (by decide) (by decide), zk 80 (by decide) (by decide) (by decide) (by decide)]; exact a5
      · rw [hZ 8 (by decide), up2_ne (Or.inr (by decide)), up2_same, z1 81 (by decide), w81, a6]
      · rw [hZ2 9 (by decide) (by decide) (by decide), zk 74 (by decide) (by decide) (by decide) (by decide)]; exact a7
      · rw [hO (0 + 3) (by decide) (by decide), zk 75 (by decide) (by decide) (by decide) (by decide), zk 76 (by decide) (by decide) (by decide) (by decide), zk 77 (by decide) (by decide) (by decide) (by decide)]; exact h4.set
      · obtain ⟨q0, q2, q5, q1⟩ := g3 s (by omega)
        obtain ⟨y1, y3, y4⟩ := q1 hs
        rw [hN] at hs
        obtain ⟨c1, c2, c3, c4, c5⟩ := L3 s hs
        rw [show 0 + 4 + s = 4 + s by omega, q0, q2, y1, y3, y4, z1 (3 * s) (by omega), z1 (3 * s + 2) (by omega), c1, c2, c3]
        exact ⟨rfl, rfl, rfl, rfl, rfl⟩
      · obtain ⟨q0, q2, q5, q1⟩ := g3 s hs
        rw [show 0 + 4 + s = 4 + s by omega, q5, F1.2.2 (4 + s) (by omega) (by omega), up2_other (by omega), up2_other (by omega), up2_other (by omega)]
        have := h4.bu hs
        rwa [Nat.zero_add] at this
      · rw [hM] at ht; exact absurd ht (by omega)
    have hCl : Cl A2 0 := ⟨fun s hs => hR.bu hs, fun t ht => by rw [hO _ (by omega) (by omega)]; exact h7.2 t ht⟩
    rw [g1, bs, bs]
    unfold x1_wipe
    rw [mNm_e, bs]
    have hrel : Rel (k + 1) A2 (sr B' zf) := h3.put (by omega) (fun d hd => hO d (by omega) (by omega)) hR hi (h6.put (zk 80 (by decide) (by decide) (by decide) (by decide))) hCl
    exact ⟨_, _, _, by rw [up2_ne (Or.inl (by decide)), h03], by rw [up2_ne (Or.inl (by decide)), sr_247, z72'], hrel.wipe⟩
  · rw [if_neg e, if_neg e]
    exact ⟨_, _, _, rfl, rfl, (h.f89 f3).mono (by omega)⟩
