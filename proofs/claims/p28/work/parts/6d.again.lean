/-! again and lay -/
theorem lt1 (n : Nat) (h : n < 100) : ¬ nI (n + 1) < (1 : Int32) := fun q => by have := (jA_nlt (b := 1) (by omega) (by decide)).mp q; omega
theorem le1 (n : Nat) (h : n < 100) : (1 : Int32) ≤ nI (n + 1) := (jA_nle (a := 1) (by decide) (by omega)).mpr (by omega)
theorem lAgain {k i : Nat} {G B B0 : mM} {D S T w0 : mR} (hR : Rel k (lm 246 247 248 G D S T) B) (hK : Kp B B0) (hw0 : w0 72 = 0) (hi : i < 8) (hd : ∀ e, e ≤ i → ∃ d, d < 10 ∧ S (3 * e) = nI d) : ∃ G' B' p, xL_again (nI i) 247 24 (lm 246 247 248 G D S T) = some (1, lm 246 247 248 G' D S T) ∧ TXT k (lm 246 247 248 G' D S T) B' B0 w0 S (Lc S (i + 1) - 1) p (i + 1) ∧ pEnd S p i ∧ ∀ e, 249 ≤ e → G' e = G e := by
  obtain ⟨M1, B1, e1, e2, e3, e4, e5⟩ := oClear hR
  have eM := lmOf e4
  have f1 : ∀ e, 249 ≤ e → M1 e = G e := fun e he => (e4 e (by omega)).trans (lm_o (by omega) (by omega) (by omega))
  rw [eM] at e1 e2
  have hbegin : TXT k (lm 246 247 248 M1 D S T) B1 B0 w0 S 0 0 0 := ⟨e2, e3.tr hK, e5, rfl, hw0, fun e he => absurd he (by omega), fun j _ _ => rfl⟩
  have hLp := lpI (fun f (X : mM) j => xL_again_L7 (nI i) 247 24 f j (lm 246 247 248 X D S T)) (fun X => ((0 : Nat), lm 246 247 248 X D S T)) (fun e X => (∃ B', (e = 0 ∧ TXT k (lm 246 247 248 X D S T) B' B0 w0 S 0 0 0) ∨ ∃ e' p, e = e' + 1 ∧ TXT k (lm 246 247 248 X D S T) B' B0 w0 S (Lc S e - 1) p (e' + 1) ∧ pEnd S p e') ∧ ∀ c, 249 ≤ c → X c = G c) (i + 1) (fun f e X he hI => ?_) (fun f X hI => ?_) (i + 1) 0 mFu M1 (by omega) (by unfold mFu; omega) ⟨⟨B1, Or.inl ⟨rfl, hbegin⟩⟩, f1⟩
  · obtain ⟨X, g1, ⟨B', g2⟩, g3⟩ := hLp
    rcases g2 with ⟨g2, -⟩ | ⟨e', p, g2, g4, g5⟩
    · omega
    · have : e' = i := by omega
      subst this
      refine ⟨X, B', p, ?_, g4, g5, g3⟩
      unfold xL_again
      rw [show x5_clear (lm 246 247 248 G D S T) = _ from e1, bs, show xL_again_L7 (nI e') 247 24 mFu 0 (lm 246 247 248 M1 D S T) = some (0, lm 246 247 248 X D S T) from g1, bs]
      exact if_pos rfl
  · obtain ⟨⟨B', hT⟩, hG⟩ := hI
    have e8 : e < 8 := by omega
    obtain ⟨d, d10, dS⟩ := hd e (by omega)
    have hLe := Lc_le S e
    show ∃ X', xL_again_L7 (nI i) 247 24 (f + 1) (nI e) (lm 246 247 248 X D S T) = xL_again_L7 (nI i) 247 24 f (nI (e + 1)) (lm 246 247 248 X' D S T) ∧ _
    rw [xL_again_L7, if_neg (show ¬ nI i < nI e from fun q => by have := (jA_nlt (by omega) (by omega)).mp q; omega)]
    rcases hT with ⟨e0, hT⟩ | ⟨e', p, e0, hT, hp⟩
    · subst e0
      obtain ⟨G1, B1, s1, s2, s3, s4⟩ := segType hT (by omega) (by omega) d10 dS
      rw [if_pos (show nI 0 ≤ 0 by decide), mCk_t (sk0 e8), rS0 d678 e8, dS, s1, bs, if_neg (lt1 0 (by decide)), mCk_t (sk1 e8)]
      dsimp only
      by_cases hf : S (3 * 0 + 1) = 1
      · obtain ⟨G2, B2, u1, u2, u3⟩ := s4 hf
        rw [if_pos ((rS1 d678 e8).trans hf), u1, bs, if_pos (le1 1 (by decide)), mNm_e, jA_1]
        refine ⟨G2, rfl, ⟨B2, Or.inr ⟨0, 2, rfl, ?_, Or.inl ⟨rfl, hf⟩⟩⟩, fun c hc => (u3 c hc).trans (hG c hc)⟩
        have : Lc S (0 + 1) - 1 = 0 + 1 + 1 := by
          have h1 : flN S 0 = 1 := if_pos hf
          rw [Lc_s, h1]; rfl
        rw [this]; exact u2
      · rw [if_neg (fun q => hf ((rS1 d678 e8).symm.trans q)), mNm_e, jA_1]
        refine ⟨G1, rfl, ⟨B1, Or.inr ⟨0, 1, rfl, ?_, Or.inr ⟨rfl, hf⟩⟩⟩, fun c hc => (s3 c hc).trans (hG c hc)⟩
        have : Lc S (0 + 1) - 1 = 0 + 1 := by
          have h1 : flN S 0 = 0 := if_neg hf
          rw [Lc_s, h1]; rfl
        rw [this]; exact s2
    · subst e0
      have hL1 : 1 ≤ Lc S (e' + 1) := by rw [Lc_s]; omega
      obtain ⟨G0, B0', c1, c2, c3⟩ := commaType hT (by omega) (by omega) hp
      rw [show Lc S (e' + 1) - 1 + 1 = Lc S (e' + 1) by omega] at c1 c2
      obtain ⟨G1, B1, s1, s2, s3, s4⟩ := segType c2 (by omega) (by omega) d10 dS
      rw [if_neg (show ¬ nI (e' + 1) ≤ 0 from nI_nle (by omega) (by omega)), c1, bs, if_neg (show ¬ nI (Lc S (e' + 1)) < (1 : Int32) by have := lt1 (Lc S (e' + 1) - 1) (by omega); rwa [show Lc S (e' + 1) - 1 + 1 = Lc S (e' + 1) by omega] at this), mCk_t (sk0 e8)]
      dsimp only
      rw [rS0 d678 e8, dS, s1, bs, if_neg (lt1 _ (by omega)), mCk_t (sk1 e8)]
      dsimp only
      by_cases hf : S (3 * (e' + 1) + 1) = 1
      · obtain ⟨G2, B2, u1, u2, u3⟩ := s4 hf
        rw [if_pos ((rS1 d678 e8).trans hf), u1, bs, if_pos (le1 _ (by omega)), mNm_e, jA_1]
        refine ⟨G2, rfl, ⟨B2, Or.inr ⟨e' + 1, 2, rfl, ?_, Or.inl ⟨rfl, hf⟩⟩⟩, fun c hc => ((u3 c hc).trans (c3 c hc)).trans (hG c hc)⟩
        have : Lc S (e' + 1 + 1) - 1 = Lc S (e' + 1) + 1 + 1 := by
          have h1 : flN S (e' + 1) = 1 := if_pos hf
          rw [Lc_s, h1]; omega
        rw [this]; exact u2
      · rw [if_neg (fun q => hf ((rS1 d678 e8).symm.trans q)), mNm_e, jA_1]
        refine ⟨G1, rfl, ⟨B1, Or.inr ⟨e' + 1, 1, rfl, ?_, Or.inr ⟨rfl, hf⟩⟩⟩, fun c hc => ((s3 c hc).trans (c3 c hc)).trans (hG c hc)⟩
        have : Lc S (e' + 1 + 1) - 1 = Lc S (e' + 1) + 1 := by
          have h1 : flN S (e' + 1) = 0 := if_neg hf
          rw [Lc_s, h1]; omega
        rw [this]; exact s2
  · show xL_again_L7 (nI i) 247 24 (f + 1) (nI (i + 1)) (lm 246 247 248 X D S T) = _
    rw [xL_again_L7, if_pos (show nI i < nI (i + 1) from (jA_nlt (by omega) (by omega)).mpr (by omega))]
/-- behind a segment's signs -/
theorem layTail {k i N n len p : Nat} {y1 y2 : Int32} {G B B0 : mM} {D S T w0 : mR} (hw0 : w0 72 = 0) (hN : 3 ≤ N ∧ N ≤ 8) (hi : i < N) (hd : ∀ e, e ≤ i → ∃ d, d < 10 ∧ S (3 * e) = nI d) (h : TXT k (lm 246 247 248 G D S T) B B0 w0 S len p (i + 1)) (hp : pEnd S p i) (hlen : len + 1 = Lc S (i + 1)) : ∃ G' B' len' p', (if (nI i) = (nI N - (1 : Int32)) then
                    mNm ((nI i) + (1 : Int32)) fun v_222 =>
                    xL_lay_L44 y1 y2 247 24 (nI N) n (nI len) v_222 (lm 246 247 248 G D S T)
                  else
                    (xL_at (y2 >>> ((nI i) &&& 31)) (6 : Int32) (lm 246 247 248 G D S T)).bind fun q_206 =>
                    if q_206 = 0 then
                      (x5_type (53 : Int32) (lm 246 247 248 G D S T)).bind fun q_212 =>
                      if q_212.1 = ((nI len) + (1 : Int32)) then
                        (x5_fault q_212.2).bind fun q_214 =>
                        if q_214 = (nI len) then
                          (xL_again (nI i) 247 24 q_212.2).bind fun q_216 =>
                          if q_216.1 = 0 then
                            some (3, q_216.2)
                          else
                            (x5_type (44 : Int32) q_216.2).bind fun q_218 =>
                            mNm ((nI len) + (1 : Int32)) fun v_219 =>
                            if q_218.1 = v_219 then
                              mNm ((nI i) + (1 : Int32)) fun v_221 =>
                              xL_lay_L44 y1 y2 247 24 (nI N) n v_219 v_221 q_218.2
                            else
                              some (4, q_218.2)
                        else
                          some (3, q_212.2)
                      else
                        some (3, q_212.2)
                    else
                      (x5_type (44 : Int32) (lm 246 247 248 G D S T)).bind fun q_208 =>
                      mNm ((nI len) + (1 : Int32)) fun v_209 =>
                      if q_208.1 = v_209 then
                        mNm ((nI i) + (1 : Int32)) fun v_211 =>
                        xL_lay_L44 y1 y2 247 24 (nI N) n v_209 v_211 q_208.2
                      else
                        some (4, q_208.2)) = xL_lay_L44 y1 y2 247 24 (nI N) n (nI len') (nI (i + 1)) (lm 246 247 248 G' D S T) ∧ TXT k (lm 246 247 248 G' D S T) B' B0 w0 S len' p' (i + 1) ∧ (i + 1 < N → p' = 0 ∧ len' = Lc S (i + 1)) ∧ (i + 1 = N → pEnd S p' i) ∧ len' ≤ 24 ∧ ∀ e, 249 ≤ e → G' e = G e := by
  have hLe := Lc_le S (i + 1)
  have hp0 : p ≠ 0 := by rcases hp with ⟨q, -⟩ | ⟨q, -⟩ <;> omega
  rw [show nI N - (1 : Int32) = nI (N - 1) from pk_sub (b := 1) (by omega)]
  by_cases e : i = N - 1
  · rw [if_pos (show nI i = nI (N - 1) by rw [e]), mNm_e, jA_1]
    exact ⟨G, B, len, p, rfl, h, fun q => by omega, fun _ => hp, by omega, fun _ _ => rfl⟩
  · rw [if_neg (show ¬ nI i = nI (N - 1) from fun q => e ((jA_neq (by omega) (by omega)).mp q)), show xL_at (y2 >>> (nI i &&& 31)) (6 : Int32) (lm 246 247 248 G D S T) = _ from atE _ (N := 6) (by decide) (by decide) _, bs]
    by_cases e6 : nI (atV (y2 >>> (nI i &&& 31)) 6) = 0
    · obtain ⟨h1, h2, h3, h4, h5⟩ := id h
      obtain ⟨M1, B1, a1, a2, a3, a4, a5, a6⟩ := oType h1 h3 (by omega) (c := 53) (by decide)
      have eM := lmOf a4
      have f1 : ∀ e, 249 ≤ e → M1 e = G e := fun e he => (a4 e (by omega)).trans (lm_o (by omega) (by omega) (by omega))
      have hflt : x5_fault M1 = some (nI len) := oFaultAt a2 a5 (by omega) (p := p) (b := i + 1) (by rw [trk_cong (fun j hj => by rw [a6, upd_n (by omega)]), h4]) (by
        rw [a6, upd_s]
        unfold tk
        rw [if_neg hp0, if_neg (by decide), if_neg (by decide)])
      rw [eM] at a1 a2 hflt
      obtain ⟨G2, B2, p2, g1, g2, g3, g4⟩ := lAgain (i := i) a2 (a3.tr h2) hw0 (by omega) hd
      rw [show Lc S (i + 1) - 1 = len by omega] at g2
      obtain ⟨G3, B3, u1, u2, u3⟩ := commaType g2 (by omega) (by omega) g3
      rw [if_pos e6, a1, bs, if_pos (show (nI (len + 1), lm 246 247 248 M1 D S T).1 = nI len + 1 from (jA_1 len).symm)]
      dsimp only
      rw [hflt, bs, if_pos rfl, g1, bs, if_neg (show ¬ ((1 : Int32), lm 246 247 248 G2 D S T).1 = 0 from one_ne)]
      dsimp only
      rw [u1, bs, mNm_e, if_pos (show (nI (len + 1), lm 246 247 248 G3 D S T).1 = nI len + 1 from (jA_1 len).symm), mNm_e, jA_1, jA_1]
      exact ⟨G3, B3, len + 1, 0, rfl, u2, fun _ => ⟨rfl, hlen⟩, fun q => by omega, by omega, fun e he => ((u3 e he).trans (g4 e he)).trans (f1 e he)⟩
    · obtain ⟨G3, B3, u1, u2, u3⟩ := commaType h (by omega) (by omega) hp
      rw [if_neg e6, u1, bs, mNm_e, if_pos (show (nI (len + 1), lm 246 247 248 G3 D S T).1 = nI len + 1 from (jA_1 len).symm), mNm_e, jA_1, jA_1]
      exact ⟨G3, B3, len + 1, 0, rfl, u2, fun _ => ⟨rfl, hlen⟩, fun q => by omega, by omega, u3⟩
