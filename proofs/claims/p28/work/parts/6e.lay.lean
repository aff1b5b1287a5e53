/-! lay -/
theorem laySeg {k i N n len d : Nat} {y1 y2 : Int32} {G B B0 : mM} {D S T w0 : mR} (hw0 : w0 72 = 0) (hN : 3 ≤ N ∧ N ≤ 8) (hi : i < N) (hd : ∀ e, e ≤ i → ∃ d, d < 10 ∧ S (3 * e) = nI d) (hdi : d < 10 ∧ S (3 * i) = nI d) (h : TXT k (lm 246 247 248 G D S T) B B0 w0 S len 0 i) (hlen : len = Lc S i) : ∃ G' B' len' p', (mCk (mIn ((3 : Int32) * nI i) 24) <|
            (x5_type ((48 : Int32) + (lm 246 247 248 G D S T 247 (((3 : Int32) * nI i).toNatClampNeg))) (lm 246 247 248 G D S T)).bind fun q_179 =>
            mNm (nI len + (1 : Int32)) fun v_180 =>
            if q_179.1 = v_180 then
              mCk (mIn (((3 : Int32) * nI i) + 1) 24) <|
              if (q_179.2 247 ((((3 : Int32) * nI i) + 1).toNatClampNeg)) = (1 : Int32) then
                (x5_type (112 : Int32) q_179.2).bind fun q_202 =>
                mNm (v_180 + (1 : Int32)) fun v_203 =>
                if q_202.1 = v_203 then
                  if (nI i) = (nI N - (1 : Int32)) then
                    mNm ((nI i) + (1 : Int32)) fun v_222 =>
                    xL_lay_L44 y1 y2 247 24 (nI N) n v_203 v_222 q_202.2
                  else
                    (xL_at (y2 >>> ((nI i) &&& 31)) (6 : Int32) q_202.2).bind fun q_206 =>
                    if q_206 = 0 then
                      (x5_type (53 : Int32) q_202.2).bind fun q_212 =>
                      if q_212.1 = (v_203 + (1 : Int32)) then
                        (x5_fault q_212.2).bind fun q_214 =>
                        if q_214 = v_203 then
                          (xL_again (nI i) 247 24 q_212.2).bind fun q_216 =>
                          if q_216.1 = 0 then
                            some (3, q_216.2)
                          else
                            (x5_type (44 : Int32) q_216.2).bind fun q_218 =>
                            mNm (v_203 + (1 : Int32)) fun v_219 =>
                            if q_218.1 = v_219 then
                              mNm ((nI i) + (1 : Int32)) fun v_221 =>
                              xL_lay_L44 y1 y2 247 24 (nI N) n v_219 v_221 q_218.2
                            else
                              some (4, q_218.2)
                        else
                          some (3, q_212.2)
                      else
                        some (3, q_212.2)
                    else
                      (x5_type (44 : Int32) q_202.2).bind fun q_208 =>
                      mNm (v_203 + (1 : Int32)) fun v_209 =>
                      if q_208.1 = v_209 then
                        mNm ((nI i) + (1 : Int32)) fun v_211 =>
                        xL_lay_L44 y1 y2 247 24 (nI N) n v_209 v_211 q_208.2
                      else
                        some (4, q_208.2)
                else
                  some (2, q_202.2)
              else
                if (nI i) = (nI N - (1 : Int32)) then
                    mNm ((nI i) + (1 : Int32)) fun v_222 =>
                    xL_lay_L44 y1 y2 247 24 (nI N) n v_180 v_222 q_179.2
                  else
                    (xL_at (y2 >>> ((nI i) &&& 31)) (6 : Int32) q_179.2).bind fun q_206 =>
                    if q_206 = 0 then
                      (x5_type (53 : Int32) q_179.2).bind fun q_212 =>
                      if q_212.1 = (v_180 + (1 : Int32)) then
                        (x5_fault q_212.2).bind fun q_214 =>
                        if q_214 = v_180 then
                          (xL_again (nI i) 247 24 q_212.2).bind fun q_216 =>
                          if q_216.1 = 0 then
                            some (3, q_216.2)
                          else
                            (x5_type (44 : Int32) q_216.2).bind fun q_218 =>
                            mNm (v_180 + (1 : Int32)) fun v_219 =>
                            if q_218.1 = v_219 then
                              mNm ((nI i) + (1 : Int32)) fun v_221 =>
                              xL_lay_L44 y1 y2 247 24 (nI N) n v_219 v_221 q_218.2
                            else
                              some (4, q_218.2)
                        else
                          some (3, q_212.2)
                      else
                        some (3, q_212.2)
                    else
                      (x5_type (44 : Int32) q_179.2).bind fun q_208 =>
                      mNm (v_180 + (1 : Int32)) fun v_209 =>
                      if q_208.1 = v_209 then
                        mNm ((nI i) + (1 : Int32)) fun v_211 =>
                        xL_lay_L44 y1 y2 247 24 (nI N) n v_209 v_211 q_208.2
                      else
                        some (4, q_208.2)
            else
              some (2, q_179.2)) = xL_lay_L44 y1 y2 247 24 (nI N) n (nI len') (nI (i + 1)) (lm 246 247 248 G' D S T) ∧ TXT k (lm 246 247 248 G' D S T) B' B0 w0 S len' p' (i + 1) ∧ (i + 1 < N → p' = 0 ∧ len' = Lc S (i + 1)) ∧ (i + 1 = N → pEnd S p' i) ∧ len' ≤ 24 ∧ ∀ e, 249 ≤ e → G' e = G e := by
  have hLe := Lc_le S i
  have i8 : i < 8 := by omega
  obtain ⟨G1, B1, s1, s2, s3, s4⟩ := segType h (by omega) (by omega) hdi.1 hdi.2
  rw [mCk_t (sk0 i8), rS0 d678 i8, hdi.2, s1, bs, jA_1, mNm_e, if_pos (show (nI (len + 1), lm 246 247 248 G1 D S T).1 = nI (len + 1) from rfl), mCk_t (sk1 i8)]
  by_cases hf : S (3 * i + 1) = 1
  · obtain ⟨G2, B2, u1, u2, u3⟩ := s4 hf
    have h1 : flN S i = 1 := if_pos hf
    obtain ⟨G3, B3, len', p', v1, v2, v3, v4, v5, v6⟩ := layTail (n := n) (y1 := y1) (y2 := y2) hw0 hN hi hd u2 (Or.inl ⟨rfl, hf⟩) (by rw [Lc_s, h1]; omega)
    rw [if_pos (show (nI (len + 1), lm 246 247 248 G1 D S T).2 247 (((3 : Int32) * nI i) + 1).toNatClampNeg = 1 from (rS1 (G := G1) (D := D) (S := S) (T := T) d678 i8).trans hf)]
    dsimp only
    rw [u1, bs, jA_1, mNm_e, if_pos (show (nI (len + 1 + 1), lm 246 247 248 G2 D S T).1 = nI (len + 1 + 1) from rfl)]
    exact ⟨G3, B3, len', p', v1, v2, v3, v4, v5, fun e he => (v6 e he).trans (u3 e he)⟩
  · have h1 : flN S i = 0 := if_neg hf
    obtain ⟨G3, B3, len', p', v1, v2, v3, v4, v5, v6⟩ := layTail (n := n) (y1 := y1) (y2 := y2) hw0 hN hi hd s2 (Or.inr ⟨rfl, hf⟩) (by rw [Lc_s, h1]; omega)
    rw [if_neg (show ¬ (nI (len + 1), lm 246 247 248 G1 D S T).2 247 (((3 : Int32) * nI i) + 1).toNatClampNeg = 1 from fun q => hf ((rS1 (G := G1) (D := D) (S := S) (T := T) d678 i8).symm.trans q))]
    exact ⟨G3, B3, len', p', v1, v2, v3, v4, v5, fun e he => (v6 e he).trans (s3 e he)⟩
set_option maxHeartbeats 1000000 in
theorem layLoop {k N : Nat} {y1 y2 : Int32} {G B B0 : mM} {D S T w0 : mR} (hw0 : w0 72 = 0) (hN : 3 ≤ N ∧ N ≤ 8) (h : TXT k (lm 246 247 248 G D S T) B B0 w0 S 0 0 0) : ∃ G' S' B' len p, xL_lay_L44 y1 y2 247 24 (nI N) mFu 0 0 (lm 246 247 248 G D S T) = some (0, lm 246 247 248 G' D S' T) ∧ TXT k (lm 246 247 248 G' D S' T) B' B0 w0 S' len p N ∧ pEnd S' p (N - 1) ∧ (∀ e, e < N → S' (3 * e + 2) = 0) ∧ len ≤ 24 ∧ ∀ e, 249 ≤ e → G' e = G e := by
  have hLp := lpI (fun f (a : Int32 × mM × mR) j => xL_lay_L44 y1 y2 247 24 (nI N) f a.1 j (lm 246 247 248 a.2.1 D a.2.2 T)) (fun a => ((0 : Nat), lm 246 247 248 a.2.1 D a.2.2 T)) (fun i a => (∃ B' len p, a.1 = nI len ∧ TXT k (lm 246 247 248 a.2.1 D a.2.2 T) B' B0 w0 a.2.2 len p i ∧ (i < N → p = 0 ∧ len = Lc a.2.2 i) ∧ (i = N → pEnd a.2.2 p (N - 1)) ∧ len ≤ 24) ∧ (∀ e, e < i → (∃ d, d < 10 ∧ a.2.2 (3 * e) = nI d) ∧ a.2.2 (3 * e + 2) = 0) ∧ ∀ c, 249 ≤ c → a.2.1 c = G c) N (fun f i a hi hI => ?_) (fun f a hI => ?_) N 0 mFu (0, G, S) (by omega) (by unfold mFu; omega) ⟨⟨B, 0, 0, rfl, h, fun _ => ⟨rfl, rfl⟩, fun q => by omega, by decide⟩, fun e he => absurd he (by omega), fun _ _ => rfl⟩
  · obtain ⟨⟨w, X, S'⟩, g1, ⟨B', len, p, -, g2, -, g3, g4⟩, g5, g6⟩ := hLp
    exact ⟨X, S', B', len, p, g1, g2, g3 rfl, fun e he => (g5 e he).2, g4, g6⟩
  · obtain ⟨w, X, S1⟩ := a
    obtain ⟨⟨B', len, p, h1, hT, h2, -, hl24⟩, hdig, hG⟩ := hI
    dsimp only at h1 hT h2 hdig hG
    obtain ⟨rfl, rfl⟩ := h2 hi
    subst h1
    have i8 : i < 8 := by omega
    have hflt := oFault hT.1 hT.2.2.1 (by omega) hT.2.2.2.1
    rw [if_pos (Or.inl rfl)] at hflt
    have fin : ∀ (d : Nat) (v : Int32), d < 10 → ∃ a' : Int32 × mM × mR, (mCk (mIn ((3 : Int32) * nI i) 24) <|
            (x5_type ((48 : Int32) + (lm 246 247 248 X D (upd (upd (upd S1 (3 * i) (nI d)) (3 * i + 1) v) (3 * i + 2) 0) T 247 (((3 : Int32) * nI i).toNatClampNeg))) (lm 246 247 248 X D (upd (upd (upd S1 (3 * i) (nI d)) (3 * i + 1) v) (3 * i + 2) 0) T)).bind fun q_179 =>
            mNm (nI (Lc S1 i) + (1 : Int32)) fun v_180 =>
            if q_179.1 = v_180 then
              mCk (mIn (((3 : Int32) * nI i) + 1) 24) <|
              if (q_179.2 247 ((((3 : Int32) * nI i) + 1).toNatClampNeg)) = (1 : Int32) then
                (x5_type (112 : Int32) q_179.2).bind fun q_202 =>
                mNm (v_180 + (1 : Int32)) fun v_203 =>
                if q_202.1 = v_203 then
                  if (nI i) = (nI N - (1 : Int32)) then
                    mNm ((nI i) + (1 : Int32)) fun v_222 =>
                    xL_lay_L44 y1 y2 247 24 (nI N) f v_203 v_222 q_202.2
                  else
                    (xL_at (y2 >>> ((nI i) &&& 31)) (6 : Int32) q_202.2).bind fun q_206 =>
                    if q_206 = 0 then
                      (x5_type (53 : Int32) q_202.2).bind fun q_212 =>
                      if q_212.1 = (v_203 + (1 : Int32)) then
                        (x5_fault q_212.2).bind fun q_214 =>
                        if q_214 = v_203 then
                          (xL_again (nI i) 247 24 q_212.2).bind fun q_216 =>
                          if q_216.1 = 0 then
                            some (3, q_216.2)
                          else
                            (x5_type (44 : Int32) q_216.2).bind fun q_218 =>
                            mNm (v_203 + (1 : Int32)) fun v_219 =>
                            if q_218.1 = v_219 then
                              mNm ((nI i) + (1 : Int32)) fun v_221 =>
                              xL_lay_L44 y1 y2 247 24 (nI N) f v_219 v_221 q_218.2
                            else
                              some (4, q_218.2)
                        else
                          some (3, q_212.2)
                      else
                        some (3, q_212.2)
                    else
                      (x5_type (44 : Int32) q_202.2).bind fun q_208 =>
                      mNm (v_203 + (1 : Int32)) fun v_209 =>
                      if q_208.1 = v_209 then
                        mNm ((nI i) + (1 : Int32)) fun v_211 =>
                        xL_lay_L44 y1 y2 247 24 (nI N) f v_209 v_211 q_208.2
                      else
                        some (4, q_208.2)
                else
                  some (2, q_202.2)
              else
                if (nI i) = (nI N - (1 : Int32)) then
                    mNm ((nI i) + (1 : Int32)) fun v_222 =>
                    xL_lay_L44 y1 y2 247 24 (nI N) f v_180 v_222 q_179.2
                  else
                    (xL_at (y2 >>> ((nI i) &&& 31)) (6 : Int32) q_179.2).bind fun q_206 =>
                    if q_206 = 0 then
                      (x5_type (53 : Int32) q_179.2).bind fun q_212 =>
                      if q_212.1 = (v_180 + (1 : Int32)) then
                        (x5_fault q_212.2).bind fun q_214 =>
                        if q_214 = v_180 then
                          (xL_again (nI i) 247 24 q_212.2).bind fun q_216 =>
                          if q_216.1 = 0 then
                            some (3, q_216.2)
                          else
                            (x5_type (44 : Int32) q_216.2).bind fun q_218 =>
                            mNm (v_180 + (1 : Int32)) fun v_219 =>
                            if q_218.1 = v_219 then
                              mNm ((nI i) + (1 : Int32)) fun v_221 =>
                              xL_lay_L44 y1 y2 247 24 (nI N) f v_219 v_221 q_218.2
                            else
                              some (4, q_218.2)
                        else
                          some (3, q_212.2)
                      else
                        some (3, q_212.2)
                    else
                      (x5_type (44 : Int32) q_179.2).bind fun q_208 =>
                      mNm (v_180 + (1 : Int32)) fun v_209 =>
                      if q_208.1 = v_209 then
                        mNm ((nI i) + (1 : Int32)) fun v_211 =>
                        xL_lay_L44 y1 y2 247 24 (nI N) f v_209 v_211 q_208.2
                      else
                        some (4, q_208.2)
            else
              some (2, q_179.2)) = xL_lay_L44 y1 y2 247 24 (nI N) f a'.1 (nI (i + 1)) (lm 246 247 248 a'.2.1 D a'.2.2 T) ∧ (∃ B' len p, a'.1 = nI len ∧ TXT k (lm 246 247 248 a'.2.1 D a'.2.2 T) B' B0 w0 a'.2.2 len p (i + 1) ∧ (i + 1 < N → p = 0 ∧ len = Lc a'.2.2 (i + 1)) ∧ (i + 1 = N → pEnd a'.2.2 p (N - 1)) ∧ len ≤ 24) ∧ (∀ e, e < i + 1 → (∃ d, d < 10 ∧ a'.2.2 (3 * e) = nI d) ∧ a'.2.2 (3 * e + 2) = 0) ∧ ∀ c, 249 ≤ c → a'.2.1 c = G c := by
      intro d v hd10
      have hlo : ∀ j, j < 3 * i → upd (upd (upd S1 (3 * i) (nI d)) (3 * i + 1) v) (3 * i + 2) 0 j = S1 j := fun j hj => by rw [upd_n (by omega), upd_n (by omega), upd_n (by omega)]
      have hSd : upd (upd (upd S1 (3 * i) (nI d)) (3 * i + 1) v) (3 * i + 2) 0 (3 * i) = nI d := by rw [upd_n (by omega), upd_n (by omega), upd_s]
      have hS2 : upd (upd (upd S1 (3 * i) (nI d)) (3 * i + 1) v) (3 * i + 2) 0 (3 * i + 2) = 0 := upd_s _ _ _
      revert hlo hSd hS2
      generalize upd (upd (upd S1 (3 * i) (nI d)) (3 * i + 1) v) (3 * i + 2) 0 = S3
      intro hlo hSd hS2
      have hT3 := hT.law (M1 := lm 246 247 248 X D S3 T) lm_lo hlo
      have hdg : ∀ e, e ≤ i → ∃ d, d < 10 ∧ S3 (3 * e) = nI d := fun e he => by
        by_cases q : e = i
        · subst q; exact ⟨d, hd10, hSd⟩
        · rw [hlo _ (by omega)]; exact (hdig e (by omega)).1
      obtain ⟨G', B'', len', p', v1, v2, v3, v4, v5, v6⟩ := laySeg (n := f) (y1 := y1) (y2 := y2) hw0 hN hi hdg ⟨hd10, hSd⟩ hT3 (Lc_cg hlo).symm
      refine ⟨(nI len', G', S3), v1, ⟨B'', len', p', rfl, v2, v3, fun q => ?_, v5⟩, fun e he => ?_, fun c hc => (v6 c hc).trans (hG c hc)⟩
      · have := v4 q
        rwa [show i = N - 1 by omega] at this
      · refine ⟨hdg e (by omega), ?_⟩
        by_cases q : e = i
        · subst q; exact hS2
        · show S3 (3 * e + 2) = 0
          rw [hlo _ (by omega)]; exact (hdig e (by omega)).2
    show ∃ a' : Int32 × mM × mR, xL_lay_L44 y1 y2 247 24 (nI N) (f + 1) (nI (Lc S1 i)) (nI i) (lm 246 247 248 X D S1 T) = xL_lay_L44 y1 y2 247 24 (nI N) f a'.1 (nI (i + 1)) (lm 246 247 248 a'.2.1 D a'.2.2 T) ∧ _
    rw [xL_lay_L44, if_neg (show ¬ nI N ≤ nI i from fun q => by have := (jA_nle (by omega) (by omega)).mp q; omega), hflt, bs, if_pos rfl, show xL_at (y2 >>> ((20 : Int32) &&& 31)) (2 : Int32) (lm 246 247 248 X D S1 T) = _ from atE _ (N := 2) (by decide) (by decide) _, bs]
    by_cases q2 : nI (atV (y2 >>> ((20 : Int32) &&& 31)) 2) = 0
    · rw [if_pos q2, show ∀ x, xL_at x (10 : Int32) (lm 246 247 248 X D S1 T) = some (nI (atV x 10)) from fun x => atE x (N := 10) (by decide) (by decide) _, bs, mCk_t (sk0 i8), mNm_e, wS0 d678 i8, show ∀ x (M : mM), xL_at x (3 : Int32) M = some (nI (atV x 3)) from fun x M => atE x (N := 3) (by decide) (by decide) _, bs]
      by_cases q3 : nI (atV ((y1 >>> ((((2 : Int32) * nI i) + 3) &&& 31)) + nI i) 3) = 0
      · rw [if_pos q3, mCk_t (sk1 i8), mNm_e, wS1 d678 i8, mCk_t (sk2 i8), mNm_e, wS2 d678 i8]
        exact fin _ 1 (atV_lt _ (by decide))
      · rw [if_neg q3, mCk_t (sk1 i8), mNm_e, wS1 d678 i8, mCk_t (sk2 i8), mNm_e, wS2 d678 i8]
        exact fin _ 0 (atV_lt _ (by decide))
    · rw [if_neg q2, show ∀ x, xL_at x (4 : Int32) (lm 246 247 248 X D S1 T) = some (nI (atV x 4)) from fun x => atE x (N := 4) (by decide) (by decide) _, bs, mCk_t (sk0 i8), mNm_e, wS0 d678 i8, show ∀ x (M : mM), xL_at x (3 : Int32) M = some (nI (atV x 3)) from fun x M => atE x (N := 3) (by decide) (by decide) _, bs]
      have h4 := fun x => atV_lt x (N := 4) (by decide)
      by_cases q3 : nI (atV ((y1 >>> ((((2 : Int32) * nI i) + 3) &&& 31)) + nI i) 3) = 0
      · rw [if_pos q3, mCk_t (sk1 i8), mNm_e, wS1 d678 i8, mCk_t (sk2 i8), mNm_e, wS2 d678 i8]
        exact fin _ 1 (Nat.lt_of_lt_of_le (h4 _) (by decide))
      · rw [if_neg q3, mCk_t (sk1 i8), mNm_e, wS1 d678 i8, mCk_t (sk2 i8), mNm_e, wS2 d678 i8]
        exact fin _ 0 (Nat.lt_of_lt_of_le (h4 _) (by decide))
  · obtain ⟨w, X, S1⟩ := a
    show xL_lay_L44 y1 y2 247 24 (nI N) (f + 1) w (nI N) (lm 246 247 248 X D S1 T) = _
    rw [xL_lay_L44, if_pos ((jA_nle (by omega) (by omega)).mpr (Nat.le_refl _))]
