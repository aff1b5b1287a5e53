/-! layTrack, lay, act -/
theorem tk_ne {p b : Nat} {c : Int32} {q : Nat × Nat} (h : tk p b c = some q) : (p = 0 ∧ 48 ≤ c.toInt ∧ c.toInt ≤ 57 ∧ q = (1, b + 1)) ∨ (p ≠ 0 ∧ c = 44 ∧ q = (0, b)) ∨ (p ≠ 0 ∧ c = 112 ∧ q = (2, b)) := by
  have e48 : (48 : Int32).toInt = 48 := by decide
  have e57 : (57 : Int32).toInt = 57 := by decide
  unfold tk at h
  by_cases e0 : p = 0
  · rw [if_pos e0] at h
    by_cases e1 : c < 48
    · rw [if_pos e1] at h; cases h
    · rw [if_neg e1] at h
      by_cases e2 : 57 < c
      · rw [if_pos e2] at h; cases h
      · rw [if_neg e2] at h
        cases h
        rw [jA_lt, e48] at e1
        rw [jA_lt, e57] at e2
        exact Or.inl ⟨e0, by omega, by omega, rfl⟩
  · rw [if_neg e0] at h
    by_cases e1 : c = 44
    · rw [if_pos e1] at h
      by_cases e2 : 12 ≤ b
      · rw [if_pos e2] at h; cases h
      · rw [if_neg e2] at h; cases h; exact Or.inr (Or.inl ⟨e0, e1, rfl⟩)
    · rw [if_neg e1] at h
      by_cases e2 : c = 112
      · rw [if_pos e2] at h
        by_cases e3 : p = 1
        · rw [if_pos e3] at h; cases h; exact Or.inr (Or.inr ⟨e0, e2, rfl⟩)
        · rw [if_neg e3] at h; cases h
      · rw [if_neg e2] at h; cases h
/-- the reference lays what the text says -/
theorem eLayT {cd : Nat → Int32} {len : Nat} (hlen : len ≤ 40) (hT : trk cd len ≠ none) {H : mM} {w0 : mR} (h0 : w0 72 = 0) (h6 : H 246 6 = nI len) (hB : ∀ i, i < len → H 251 i = cd i) : ∀ (k i n p b : Nat), i + k = len → k < n → trk cd i = some (p, b) → rowT w0 cd i 72 = nI b → x6_layTrack_L47 n (nI i) (sr H (rowT w0 cd i)) = some (sr H (rowT w0 cd len))
  | 0, i, n, p, b, hi, hn, ht, hw => by
    obtain ⟨n, rfl⟩ : ∃ q, n = q + 1 := ⟨n - 1, by omega⟩
    have e : i = len := by omega
    subst e
    rw [x6_layTrack_L47, sr_o (by decide), h6, if_pos ((jA_nle (by omega) (by omega)).mpr (Nat.le_refl _))]
  | k + 1, i, n, p, b, hi, hn, ht, hw => by
    obtain ⟨n, rfl⟩ : ∃ q, n = q + 1 := ⟨n - 1, by omega⟩
    have hok := trk_ok i p b ht
    obtain ⟨t0, t1, t2⟩ := hok
    have hb12 : b ≤ 12 := by
      by_cases q : p = 0
      · have := t1 q; omega
      · exact (t2 q).2
    have hs : trk cd (i + 1) ≠ none := by
      have := trk_down (cd := cd) (len - (i + 1)) (i + 1)
      rw [show i + 1 + (len - (i + 1)) = len by omega] at this
      exact this hT
    have hstep : trk cd (i + 1) = tk p b (cd i) := by rw [trk, ht]; rfl
    have hN : rN (rowT w0 cd i) = b := by unfold rN; rw [hw, jA_clamp (by omega)]
    cases hq : tk p b (cd i) with
    | none => rw [hstep, hq] at hs; exact absurd rfl hs
    | some q =>
      have hr : rowT w0 cd (i + 1) = lst (rowT w0 cd i) (cd i) := rfl
      rw [x6_layTrack_L47, sr_o (show (246 : Nat) ≠ 247 by decide), h6, if_neg (show ¬ nI len ≤ nI i from fun q => by have := (jA_nle (by omega) (by omega)).mp q; omega), mCk_t (jA_in (by omega) (by decide)), sr_o (show (251 : Nat) ≠ 247 by decide), show H 251 ((nI i).toNatClampNeg) = cd i by rw [jA_clamp (by omega)]; exact hB i (by omega), wn (cd i) 48 57 (l := 48) (h := 57) rfl rfl, bs, ite10]
      rcases tk_ne hq with ⟨p0, c1, c2, rfl⟩ | ⟨p0, c1, rfl⟩ | ⟨p0, c1, rfl⟩
      · have hb := t1 p0
        have hl : lst (rowT w0 cd i) (cd i) = upd (upd (upd (upd (rowT w0 cd i) (3 * b) (cd i - 48)) (3 * b + 1) (if b = 0 then 1 else 0)) (3 * b + 2) 0) 72 (nI (b + 1)) := by
          unfold lst; rw [if_pos ⟨c1, c2⟩, hN]
        have nx := eLayT hlen hT h0 h6 hB k (i + 1) n 1 (b + 1) (by omega) (by omega) (by rw [hstep, hq]) (by rw [hr, hl, upd_s])
        rw [if_pos ⟨c1, c2⟩, mCk_t (jA_in (by omega) (by decide)), sr_247, hw]
        by_cases b0 : b = 0
        · rw [if_pos (show nI b = 0 by rw [b0]; rfl), putSeg _ _ (by omega), bs, mNm_e, sr_247, sr_up, upd_n (show (72 : Nat) ≠ 3 * b + 2 by omega), upd_n (show (72 : Nat) ≠ 3 * b + 1 by omega), upd_n (show (72 : Nat) ≠ 3 * b by omega), hw, jA_1, mNm_e, jA_1, if_neg one_ne]
          rw [hr, hl, if_pos b0] at nx
          exact nx
        · rw [if_neg (show ¬ nI b = 0 from nI_ne b0 (by omega)), putSeg _ _ (by omega), bs, mNm_e, sr_247, sr_up, upd_n (show (72 : Nat) ≠ 3 * b + 2 by omega), upd_n (show (72 : Nat) ≠ 3 * b + 1 by omega), upd_n (show (72 : Nat) ≠ 3 * b by omega), hw, jA_1, mNm_e, jA_1, if_pos rfl]
          rw [hr, hl, if_neg b0] at nx
          exact nx
      · have hl : lst (rowT w0 cd i) (cd i) = rowT w0 cd i := by
          unfold lst; rw [if_neg (by rw [c1]; decide), if_neg (by rw [c1]; decide)]
        have nx := eLayT hlen hT h0 h6 hB k (i + 1) n 0 b (by omega) (by omega) (by rw [hstep, hq]) (by rw [hr, hl]; exact hw)
        rw [if_neg (by rw [c1]; decide), mCk_t (jA_in (by omega) (by decide)), if_neg (by rw [c1]; decide), mNm_e, jA_1]
        rw [hr, hl] at nx
        exact nx
      · have hb := t2 p0
        have hl : lst (rowT w0 cd i) (cd i) = upd (rowT w0 cd i) (3 * (b - 1) + 1) 1 := by
          unfold lst; rw [if_neg (by rw [c1]; decide), if_pos c1, hN]
        have fp := flagPut H (rowT w0 cd i) (b := b) (by omega) hw
        have nx := eLayT hlen hT h0 h6 hB k (i + 1) n 2 b (by omega) (by omega) (by rw [hstep, hq]) (by rw [hr, hl, upd_n (by omega)]; exact hw)
        rw [if_neg (by rw [c1]; decide), mCk_t (jA_in (by omega) (by decide)), if_pos c1, mCk_t fp.1, mNm_e, fp.2, sr_up, mNm_e, jA_1]
        rw [hr, hl] at nx
        exact nx
def wLay (z : mR) : mR := upd (upd (upd z 81 (z 81 + rPeat z)) 73 0) 72 0
theorem wLay72 (z : mR) : wLay z 72 = 0 := upd_s _ _ _
theorem recP {k : Nat} {A B : mM} (h : Rel k A B) : ∃ B1, x6_record B = some (sr B1 (B 247)) ∧ (∀ e, e ≠ 246 → e ≠ 249 → B1 e = B e) ∧ Hs B B1 ∧ ∀ j, j ≠ 2 → B1 246 j = B 246 j := by
  obtain ⟨B1, g1, g2, g3⟩ := recO h
  obtain ⟨A', B', h1, h2, h3, h4, h5, h6⟩ := recBoth h
  rw [h2] at g1
  have e := Option.some.inj g1
  refine ⟨B1, by rw [h2, g1], g2, g3, fun j hj => ?_⟩
  rw [← h6 j hj, e, sr_o (by decide)]
theorem oLay {k : Nat} {M B B0 : mM} {S : mR} {len p N : Nat} (h : TXT k M B B0 (wLay (B0 247)) S len p N) (hl : len ≤ 40) (hN : 3 ≤ N ∧ N ≤ 8) (hp : p ≠ 0) : ∃ M' B', x5_layTrack M = some (nI N, M') ∧ Rel (k + 1) M' B' ∧ B' 247 = upd (rowT (wLay (B0 247)) (B 251) len) (3 * (N - 1) + 1) 1 ∧ Hs B0 B' ∧ (∀ e, 246 ≤ e → M' e = M e) ∧ B' 246 6 = 0 := by
  obtain ⟨hR, ⟨k1, k2, k3⟩, hb, ht, hrt⟩ := h
  have hflt := oFault hR hb hl ht
  rw [if_neg (by omega)] at hflt
  obtain ⟨r0, Bf, f1, f2, f3, -⟩ := faultBoth hR
  have hr0 : r0 = -1 := by
    unfold x5_fault at hflt
    rw [f1, bs] at hflt
    exact Option.some.inj hflt
  subst hr0
  have hRf := hR.f89 f3
  obtain ⟨B2, g1, g2, g3, g4⟩ := recP hRf
  have z : Bf 247 = B0 247 := (f3.1 247 (by decide)).trans k1
  have hi := hRf.1.2.1
  rw [z] at g1 hi
  obtain ⟨r, M', B', e1, e2, hR'⟩ := rel_layTrack hR
  have h6 : B2 246 6 = nI len := (g4 6 (by decide)).trans ((f3.2 6 (by decide) (by decide)).trans hb)
  have h251 : B2 251 = B 251 := (g2 251 (by decide) (by decide)).trans (f3.1 251 (by decide))
  have hL := eLayT (H := B2) (w0 := wLay (B0 247)) hl (by rw [ht]; exact fun q => by cases q) (wLay72 _) h6 (fun i _ => by rw [h251]) len 0 mFu 0 0 (by omega) (by unfold mFu; omega) rfl (show rowT (wLay (B0 247)) (B 251) 0 72 = nI 0 from wLay72 _)
  have fp := flagPut B2 (rowT (wLay (B0 247)) (B 251) len) (b := N) (by omega) hrt.1
  have hL' : x6_layTrack_L47 mFu 0 (sr B2 (upd (upd (upd (B0 247) 81 (B0 247 81 + rPeat (B0 247))) 73 0) 72 0)) = some (sr B2 (rowT (wLay (B0 247)) (B 251) len)) := hL
  unfold x6_layTrack at e2
  rw [f2, bs, if_pos (show ((-1 : Int32), Bf).1 = -1 from rfl)] at e2
  dsimp only at e2
  rw [g1, bs, ePeat _ hi, bs, mNm_e, sr_247, sr_up, mNm_e, sr_up, mNm_e, sr_up, hL', bs, mCk_t fp.1, mNm_e, fp.2, sr_up, mNm_e, up2_other (show (247 : Nat) ≠ 246 by decide), sr_247, upd_n (show (72 : Nat) ≠ 3 * (N - 1) + 1 by omega), hrt.1] at e2
  cases e2
  refine ⟨M', _, e1, hR', by rw [up2_other (by decide), sr_247], ?_, fun e he => ?_, up2_same _ _ _ _⟩
  · obtain ⟨m, m1, m2, m3⟩ := g3
    rw [(f3.2 2 (by decide) (by decide)).trans k2] at m2
    refine ⟨m, m1, m2, ?_⟩
    rw [up2_ne (Or.inr (by decide)), up2_other (show (249 : Nat) ≠ 246 by decide), sr_o (show (246 : Nat) ≠ 247 by decide), sr_o (show (249 : Nat) ≠ 247 by decide), ← z]
    exact m3
  · rw [hR'.2.2.2.2.2 e he, up2_other (by omega), sr_o (by omega), g2 _ (by omega) (by omega), f3.1 _ (by omega), hR.2.2.2.2.2 e he]
theorem aLayX {k : Nat} {G B : mM} {D S T : mR} (h : Sys k (lm 246 247 248 G D S T) B) (x1 x2 : Int32) : ActR k (lm 246 247 248 G D S T) B (xL_lay x1 x2 246 10 247 24 248 40 (lm 246 247 248 G D S T)) := by
  have hi := h.1.1.2.1
  have hm := hi.m
  have hLR := h.lr
  obtain ⟨N, hN⟩ : ∃ N, 3 + atV x1 6 = N := ⟨_, rfl⟩
  have hat := atV_lt x1 (N := 6) (by decide)
  have hN8 : 3 ≤ N ∧ N ≤ 8 := by omega
  obtain ⟨M1, B1, a1, a2, a3, a4, a5⟩ := oClear h.1
  have eM := lmOf a4
  have f1 : ∀ e, 249 ≤ e → M1 e = G e := fun e he => (a4 e (by omega)).trans (lm_o (by omega) (by omega) (by omega))
  rw [eM] at a1 a2
  have s2 : xL_sum 2 246 10 248 40 (lm 246 247 248 M1 D S T) = some (rPeat (B 247)) := lSum (G := M1) hLR d678 hi (w := 2) (by decide)
  have d8 : D 8 = B 247 81 := hLR.1.2.2.2.2.2.2.2.2.1
  have hT0 : TXT k (lm 246 247 248 M1 (upd (upd (upd D 8 (D 8 + rPeat (B 247))) 0 (nI N)) 1 0) S T) (lawB B1 (lm 246 247 248 M1 (upd (upd (upd D 8 (D 8 + rPeat (B 247))) 0 (nI N)) 1 0) S T)) B (wLay (B 247)) S 0 0 0 := by
    have : TXT k (lm 246 247 248 M1 D S T) B1 B (wLay (B 247)) S 0 0 0 := ⟨a2, a3, a5, rfl, show wLay (B 247) 72 = nI 0 from wLay72 _, fun e he => absurd he (by omega), fun j _ _ => rfl⟩
    exact this.law lm_lo (fun _ _ => rfl)
  obtain ⟨G2, S2, B2, len, p, u1, u2, u3, u4, u5, u6⟩ := layLoop (y1 := x1) (y2 := x2) (wLay72 _) hN8 hT0
  have hp0 : p ≠ 0 := by rcases u3 with ⟨q, -⟩ | ⟨q, -⟩ <;> omega
  have hflt := oFault u2.1 u2.2.2.1 (by omega) u2.2.2.2.1
  rw [if_neg (by omega)] at hflt
  obtain ⟨M3, B3, v1, v2, v3, v4, v5, v6⟩ := oLay u2 (by omega) hN8 hp0
  have eM3 := lmOf v5
  rw [eM3] at v1 v2
  obtain ⟨M4, B4, w1, w2, w3, w4, w5⟩ := oClear v2
  have eM4 := lmOf w4
  rw [eM4] at w1 w2
  have hrt := u2.2.2.2.2
  have hB4 : B4 247 = upd (rowT (wLay (B 247)) (B2 251) len) (3 * (N - 1) + 1) 1 := w3.1.trans v3
  have z72 : B4 247 72 = nI N := by rw [hB4, upd_n (by omega)]; exact hrt.1
  have zk : ∀ j, 36 ≤ j → j ≠ 72 → B4 247 j = wLay (B 247) j := fun j j1 j2 => by rw [hB4, upd_n (by omega)]; exact hrt.2.2 j j1 j2
  have z73 : B4 247 73 = 0 := by rw [zk 73 (by decide) (by decide)]; unfold wLay; rw [upd_n (by decide), upd_s]
  have z81 : B4 247 81 = B 247 81 + rPeat (B 247) := by rw [zk 81 (by decide) (by decide)]; unfold wLay; rw [upd_n (by decide), upd_n (by decide), upd_s]
  have zo : ∀ j, 74 ≤ j → j ≠ 81 → B4 247 j = B 247 j := fun j j1 j2 => by rw [zk j (by omega) (by omega)]; unfold wLay; rw [upd_n (by omega), upd_n (by omega), upd_n (by omega)]
  have hNz : rN (B4 247) = N := by unfold rN; rw [z72, jA_clamp (by omega)]
  have hMz : rM (B4 247) = 0 := by unfold rM; rw [z73]; rfl
  have L : LR (upd (upd (upd D 8 (D 8 + rPeat (B 247))) 0 (nI N)) 1 0) S2 T (B4 247) := by
    obtain ⟨q0, q1, q2, q3, q4, q5, q6, q7, q8, q9⟩ := hLR.1
    refine ⟨⟨?_, ?_, ?_, ?_, ?_, ?_, ?_, ?_, ?_, ?_⟩, by rw [hNz]; exact hN8.2, fun s hs => ?_, fun t ht => by rw [hMz] at ht; exact absurd ht (by omega)⟩
    · rw [upd_n (by decide), upd_s, z72]
    · rw [upd_s, z73]
    · rw [upd_n (by decide), upd_n (by decide), upd_n (by decide), zo 75 (by decide) (by decide)]; exact q2
    · rw [upd_n (by decide), upd_n (by decide), upd_n (by decide), zo 76 (by decide) (by decide)]; exact q3
    · rw [upd_n (by decide), upd_n (by decide), upd_n (by decide), zo 77 (by decide) (by decide)]; exact q4
    · rw [upd_n (by decide), upd_n (by decide), upd_n (by decide), zo 78 (by decide) (by decide)]; exact q5
    · rw [upd_n (by decide), upd_n (by decide), upd_n (by decide), zo 79 (by decide) (by decide)]; exact q6
    · rw [upd_n (by decide), upd_n (by decide), upd_n (by decide), zo 80 (by decide) (by decide)]; exact q7
    · rw [upd_n (by decide), upd_n (by decide), upd_s, z81, d8]
    · rw [upd_n (by decide), upd_n (by decide), upd_n (by decide), zo 74 (by decide) (by decide)]; exact q9
    · rw [hNz] at hs
      obtain ⟨r1, r2, r3, r4⟩ := hrt.2.1 s hs
      refine ⟨?_, ?_, ?_⟩
      · rw [hB4, upd_n (by omega)]; exact r1.symm
      · rw [hB4, upd_n (by omega), u4 s hs]; exact r2.symm
      · unfold rPs rEnd
        rw [hNz, hB4]
        by_cases e : s = N - 1
        · rw [e, upd_s]
          exact ⟨fun _ => Or.inl (Or.inr (by omega)), fun _ => rfl⟩
        · rw [upd_n (by omega)]
          refine r4.trans ⟨fun q => ?_, fun q => ?_⟩
          · rcases q with q | q
            · exact Or.inl (Or.inl q)
            · exact Or.inr q.1
          · rcases q with (q | q) | q
            · exact Or.inl q
            · omega
            · exact Or.inr ⟨q, Or.inl (by omega)⟩
  have hX : rX (B4 247) := by
    refine ⟨fun t ht => by rw [hMz] at ht; exact absurd ht (by omega), ?_⟩
    have hac : B 247 78 = B 247 79 + rPeat (B 247) + B 247 80 + B 247 81 := h.2.2.2
    unfold rAc
    have hP0 : rPeat (B4 247) = 0 := by unfold rPeat; rw [hMz]; rfl
    rw [hP0, zo 78 (by decide) (by decide), zo 79 (by decide) (by decide), zo 80 (by decide) (by decide), z81, Int32.add_zero, hac]
    ac_rfl
  have hfin : Hs B B4 := by
    obtain ⟨m, m1, m2, m3⟩ := v4
    refine ⟨m, m1, m2, ?_⟩
    rw [w3.2.1, w3.2.2]
    exact m3
  unfold xL_lay
  rw [show xL_at x1 (6 : Int32) (lm 246 247 248 G D S T) = some (nI (atV x1 6)) from atE x1 (N := 6) (by decide) (by decide) _, bs, show (3 : Int32) + nI (atV x1 6) = nI N by rw [← hN]; exact nI_add 3 _, mNm_e, a1, bs, mCk_t dk8]
  dsimp only
  rw [s2, bs, mCk_t dk8, mNm_e, rD8, wD8, mCk_t dk0, mNm_e, wD0, mCk_t dk1, mNm_e, wD1, u1, bs]
  dsimp only
  rw [if_pos rfl, hflt, bs, if_pos rfl, v1, bs, if_pos (show (nI N, lm 246 247 248 M3 (upd (upd (upd D 8 (D 8 + rPeat (B 247))) 0 (nI N)) 1 0) S2 T).1 = nI N from rfl)]
  dsimp only
  rw [w1, bs]
  refine ⟨_, B4, if_pos v6, ⟨w2.mono (by omega), ?_, hX⟩, Or.inl hfin, fun e he => ?_⟩
  · dsimp only; rw [lm_a, lm_b d678, lm_c d678]; exact L
  · show lm 246 247 248 M4 _ _ _ e = _
    rw [lm_o (by omega) (by omega) (by omega), lm_o (by omega) (by omega) (by omega), w4 e (by omega), lm_o (by omega) (by omega) (by omega), v5 e (by omega), lm_o (by omega) (by omega) (by omega), u6 e he, f1 e he]
