/-! THE LAW'S STATE beside the class's -/
def lawB (B M : mM) : mM := fun e j => if 1246 ≤ e then M (e - 1000) j else B e j
theorem lawB_o {B M : mM} {e : Nat} (h : e < 1246) : lawB B M e = B e := by
  funext j
  unfold lawB
  rw [if_neg (by omega)]
/-- the law's own rows anew -/
theorem Rel.law {k : Nat} {M B M1 : mM} (h : Rel k M B) (hl : ∀ e, e < 246 → M1 e = M e) : Rel k M1 (lawB B M1) := by
  obtain ⟨h1, h2, ⟨n, t1, t2, t3, t4⟩, ⟨m, sc, a1, a2, a3, a4, a5, a6⟩, ⟨mk, b1, b2, b3, b4, b5⟩, hF⟩ := h
  refine ⟨by rw [lawB_o (by decide)]; exact h1.o (fun d _ hd => hl d (by omega)), fun j hj => (h2 j hj).o (fun d _ hd => hl d (by omega)), ⟨n, t1, by rw [hl _ (by decide)]; exact t2, by rw [lawB_o (by decide)]; exact t3, fun i hi => by rw [hl _ (by decide), lawB_o (by decide)]; exact t4 i hi⟩, ⟨m, sc, a1, by rw [hl _ (by decide)]; exact a2, by rw [lawB_o (by decide)]; exact a3, fun i hi => by rw [hl _ (by decide)]; exact a4 i hi, a5, fun i hi => ?_⟩, ⟨mk, b1, by rw [hl _ (by decide)]; exact b2, by rw [lawB_o (by decide)]; exact b3, fun q => ?_, fun q => ?_⟩, fun e he => ?_⟩
  · obtain ⟨j, hj1, hj2, hj3⟩ := (a4 i (by omega)).2
    rw [rowAt_e (lawB_o (by decide))]
    exact (a6 i hi).o (fun d _ hd => hl d (by omega))
  · rw [rowAt_e (lawB_o (by decide))]
    exact (b4 q).o (fun d _ hd => hl d (by omega))
  · rw [rowAt_e (lawB_o (by decide))]
    exact (b5 q).o (fun d _ hd => hl d (by omega))
  · funext j
    unfold lawB
    rw [if_pos (by omega), show 1000 + e - 1000 = e by omega]
theorem Hs.law {B M B' : mM} (h : Hs (lawB B M) B') : Hs B B' := by
  obtain ⟨m, h1, h2, h3⟩ := h
  rw [lawB_o (by decide)] at h2 h3
  exact ⟨m, h1, h2, h3⟩
theorem d678 : l3 246 247 248 := by decide
def Sys (k : Nat) (M B : mM) : Prop := Rel k M B ∧ LR (M 246) (M 247) (M 248) (B 247) ∧ rX (B 247)
def ActR (k : Nat) (M B : mM) (x : Option (Int32 × mM)) : Prop := ∃ M' B', x = some (1, M') ∧ Sys (k + 2) M' B' ∧ (Hs B B' ∨ B' 246 2 = B 246 2) ∧ ∀ e, 249 ≤ e → M' e = M e
theorem Sys.lr {k : Nat} {G B : mM} {D S T : mR} (h : Sys k (lm 246 247 248 G D S T) B) : LR D S T (B 247) := by
  have := h.2.1
  rw [lm_a, lm_b d678, lm_c d678] at this
  exact this
theorem Sys.mono {k k' : Nat} {M B : mM} (h : Sys k M B) (hk : k ≤ k') : Sys k' M B := ⟨h.1.mono hk, h.2⟩
theorem lm_lo {G : mM} {D S T D1 S1 T1 : mR} : ∀ e, e < 246 → lm 246 247 248 G D1 S1 T1 e = (lm 246 247 248 G D S T) e := fun e he => by rw [lm_o (by omega) (by omega) (by omega), lm_o (by omega) (by omega) (by omega)]
/-- the rows changed first, then the class's call -/
theorem actEnd {k : Nat} {G : mM} {D S T D1 S1 T1 w : mR} {x : Option (Int32 × mM)} {r : Int32} {H : mM → Prop} (hop : Opk k (lm 246 247 248 G D1 S1 T1) x r w H) (hLR : LR D1 S1 T1 w) (hX : rX w) : ∃ G' B', x = some (r, lm 246 247 248 G' D1 S1 T1) ∧ Sys (k + 1) (lm 246 247 248 G' D1 S1 T1) B' ∧ H B' ∧ ∀ e, 249 ≤ e → lm 246 247 248 G' D1 S1 T1 e = (lm 246 247 248 G D S T) e := by
  obtain ⟨M2, B2, e1, e2, e3, e4, e5⟩ := hop
  have ea : M2 246 = D1 := (e4 246 (by decide)).trans lm_a
  have eb : M2 247 = S1 := (e4 247 (by decide)).trans (lm_b d678)
  have ec : M2 248 = T1 := (e4 248 (by decide)).trans (lm_c d678)
  have eM : M2 = lm 246 247 248 M2 D1 S1 T1 := by rw [← ea, ← eb, ← ec, lm_id]
  refine ⟨M2, B2, ?_, ⟨?_, ?_, ?_⟩, e5, fun e he => ?_⟩
  · rw [← eM]; exact e1
  · rw [← eM]; exact e2
  · rw [lm_a, lm_b d678, lm_c d678, e3]; exact hLR
  · rw [e3]; exact hX
  · rw [← eM, e4 e (by omega), lm_o (by omega) (by omega) (by omega), lm_o (by omega) (by omega) (by omega)]
/-! at -/
def atV (x : Int32) (N : Nat) : Nat := x.toBitVec.toNat / 2 % N
theorem atE (x : Int32) {N : Nat} (h1 : 1 ≤ N) (h2 : N < 1001) (G : mM) : xL_at x (nI N) G = some (nI (atV x N)) := by
  unfold xL_at
  rw [mCk_t (nI_ne (by omega) (by omega))]
  have hb : x.toBitVec.toNat / 2 < 2 ^ 31 := by have := x.toBitVec.isLt; omega
  have e : (x.toUInt32 >>> ((1 : Int32).toUInt32 &&& Int32.toUInt32 31)).toInt32 = nI (x.toBitVec.toNat / 2) := by
    have := pk_ushr x 1 1 (by decide)
    apply Int32.toBitVec_inj.mp
    apply BitVec.eq_of_toNat_eq
    rw [this, pk_tn (by omega)]
  rw [e, pk_rem hb (by omega) (by omega)]
  rfl
theorem atV_lt (x : Int32) {N : Nat} (h1 : 1 ≤ N) : atV x N < N := Nat.mod_lt _ (by omega)
section ACTS
variable {k : Nat} {G B : mM} {D S T : mR}
theorem lTicks {a b c : Nat} (h3 : l3 a b c) {z : mR} (hL : LR D S T z) (hi : rInv z) (hx : rX z) {n : Nat} (hn : n < 1900) (y8 : Int32) : ∃ D1 S1 T1, xL_act_L40 a 10 b 24 c 40 (nI n) y8 mFu 0 (lm a b c G D S T) = some (lm a b c G D1 S1 T1) ∧ LR D1 S1 T1 (rTicks z n) := by
  have hLp := lpI (fun f (x : mR × mR × mR) i => xL_act_L40 a 10 b 24 c 40 (nI n) y8 f i (lm a b c G x.1 x.2.1 x.2.2)) (fun x => lm a b c G x.1 x.2.1 x.2.2) (fun i x => LR x.1 x.2.1 x.2.2 (rTicks z i)) n (fun f i x hn' hI => ?_) (fun f x hI => ?_) n 0 mFu (D, S, T) (by omega) (by unfold mFu; omega) hL
  · obtain ⟨x, h1, h2⟩ := hLp
    exact ⟨x.1, x.2.1, x.2.2, h1, h2⟩
  · obtain ⟨D', S', T', g1, g2⟩ := lTick (G := G) h3 hI (rTicks_inv hi i) (rTicks_X hi hx i)
    show ∃ x' : mR × mR × mR, xL_act_L40 a 10 b 24 c 40 (nI n) y8 (f + 1) (nI i) (lm a b c G x.1 x.2.1 x.2.2) = xL_act_L40 a 10 b 24 c 40 (nI n) y8 f (nI (i + 1)) (lm a b c G x'.1 x'.2.1 x'.2.2) ∧ _
    rw [xL_act_L40, if_neg (fun q => by have := (jA_nle (by omega) (by omega)).mp q; omega), g1, bs, mNm_e, jA_1]
    exact ⟨(D', S', T'), rfl, g2⟩
  · show xL_act_L40 a 10 b 24 c 40 (nI n) y8 (f + 1) (nI n) (lm a b c G x.1 x.2.1 x.2.2) = _
    rw [xL_act_L40, if_pos ((jA_nle (by omega) (by omega)).mpr (Nat.le_refl _))]
theorem aRunX (h : Sys k (lm 246 247 248 G D S T) B) (hk : k < 3000) {j : Nat} (hj : j < 200) : ActR k (lm 246 247 248 G D S T) B (
      mNm ((1 : Int32) + nI j) fun v_154 =>
      mCk (mIn (7 : Int32) 10) <|
      mNm ((lm 246 247 248 G D S T) 246 ((7 : Int32).toNatClampNeg)) fun v_156 =>
      (xL_act_L40 246 10 247 24 248 40 v_154 v_156 mFu (0 : Int32) (lm 246 247 248 G D S T)).bind fun q_157 =>
      (x5_run v_154 q_157).bind fun q_158 =>
      mCk (mIn (7 : Int32) 10) <|
      if q_158.1 = ((q_158.2 246 ((7 : Int32).toNatClampNeg)) - v_156) then
        some ((1 : Int32), q_158.2)
      else
        some ((0 : Int32), q_158.2)) := by
  have hi := h.1.1.2.1
  have hLR := h.lr
  obtain ⟨D1, S1, T1, g1, g2⟩ := lTicks (G := G) d678 hLR hi h.2.2 (n := j + 1) (by omega) (D 7)
  have hop := oRun (h.1.law (M1 := lm 246 247 248 G D1 S1 T1) lm_lo) hk (n := j + 1) (by omega)
  rw [lawB_o (by decide)] at hop
  obtain ⟨G', B', e1, e2, e3, e4⟩ := actEnd (D := D) (S := S) (T := T) hop g2 (rTicks_X hi h.2.2 _)
  have d7 : D 7 = B 247 80 := hLR.1.2.2.2.2.2.2.2.1
  have d7' : D1 7 = rTicks (B 247) (j + 1) 80 := g2.1.2.2.2.2.2.2.2.1
  rw [mNm_e, show (1 : Int32) + nI j = nI (j + 1) by rw [show (1 : Int32) + nI j = nI (1 + j) from nI_add 1 j, Nat.add_comm], mCk_t dk7, mNm_e, rD7, g1, bs, e1, bs, mCk_t dk7]
  refine ⟨_, B', if_pos ?_, e2.mono (by omega), Or.inl e3.law, e4⟩
  dsimp only
  rw [rD7, d7', d7]
theorem aDigX (h : Sys k (lm 246 247 248 G D S T) B) {j : Nat} (hj : j < 1000) : ActR k (lm 246 247 248 G D S T) B (
        mNm ((1 : Int32) + nI j) fun v_126 =>
        mCk (mIn (6 : Int32) 10) <|
        if (((lm 246 247 248 G D S T) 246 ((6 : Int32).toNatClampNeg)) + v_126) ≤ (5000 : Int32) then
          mCk (mIn (5 : Int32) 10) <|
          mCk (mIn (5 : Int32) 10) <|
          mNm (up2 (lm 246 247 248 G D S T) 246 ((5 : Int32).toNatClampNeg) (((lm 246 247 248 G D S T) 246 ((5 : Int32).toNatClampNeg)) + v_126)) fun G_131 =>
          mCk (mIn (6 : Int32) 10) <|
          mCk (mIn (6 : Int32) 10) <|
          mNm (up2 G_131 246 ((6 : Int32).toNatClampNeg) ((G_131 246 ((6 : Int32).toNatClampNeg)) + v_126)) fun G_134 =>
          (x5_dig v_126 G_134).bind fun q_135 =>
          mCk (mIn (6 : Int32) 10) <|
          if q_135.1 = (q_135.2 246 ((6 : Int32).toNatClampNeg)) then
            some ((1 : Int32), q_135.2)
          else
            some ((0 : Int32), q_135.2)
        else
          (x5_dig v_126 (lm 246 247 248 G D S T)).bind fun q_138 =>
          if q_138.1 = (-4 : Int32) then
            some ((1 : Int32), q_138.2)
          else
            some ((0 : Int32), q_138.2)) := by
  have hi := h.1.1.2.1
  have hm := hi.m
  have hLR := h.lr
  have d5 : D 5 = B 247 78 := hLR.1.2.2.2.2.2.1
  have d6 : D 6 = B 247 79 := hLR.1.2.2.2.2.2.2.1
  rw [mNm_e, show (1 : Int32) + nI j = nI (j + 1) by rw [show (1 : Int32) + nI j = nI (1 + j) from nI_add 1 j, Nat.add_comm], mCk_t dk6, rD6, d6]
  by_cases c : B 247 79 + nI (j + 1) ≤ 5000
  · rw [if_pos c, mCk_t dk5, mCk_t dk5, mNm_e, rD5, wD5, mCk_t dk6, mCk_t dk6, mNm_e, rD6, wD6, upd_n (show (6 : Nat) ≠ 5 by decide), d5, d6]
    have L : LRq (upd (upd D 5 (B 247 78 + nI (j + 1))) 6 (B 247 79 + nI (j + 1))) S T (upd (upd (B 247) 78 (B 247 78 + nI (j + 1))) 79 (B 247 79 + nI (j + 1))) (rM (B 247)) := (hLR.q.sc5 hm).sc6 hm
    have hop := oDig (h.1.law (M1 := lm 246 247 248 G (upd (upd D 5 (B 247 78 + nI (j + 1))) 6 (B 247 79 + nI (j + 1))) S T) lm_lo) (n := j + 1) (by omega)
    rw [lawB_o (by decide), if_pos c] at hop
    have hX : rX (upd (upd (B 247) 78 (B 247 78 + nI (j + 1))) 79 (B 247 79 + nI (j + 1))) := by
      obtain ⟨x1, x2⟩ := h.2.2
      have eM : rM (upd (upd (B 247) 78 (B 247 78 + nI (j + 1))) 79 (B 247 79 + nI (j + 1))) = rM (B 247) := L.2
      refine ⟨fun t ht hu => ?_, ?_⟩
      · rw [eM] at ht
        rw [upd_n (by omega), upd_n (by omega)] at hu ⊢
        exact x1 t ht hu
      · unfold rAc rPeat at x2 ⊢
        rw [eM, upd_n (show (78 : Nat) ≠ 79 by decide), upd_s, upd_s, upd_n (show (80 : Nat) ≠ 79 by decide), upd_n (show (80 : Nat) ≠ 78 by decide), upd_n (show (81 : Nat) ≠ 79 by decide), upd_n (show (81 : Nat) ≠ 78 by decide), sumI_cong (g := fun t => B 247 (36 + 9 * t + 2)) (fun i hi => by rw [upd_n (by omega), upd_n (by omega)]), x2]
        ac_rfl
    obtain ⟨G', B', e1, e2, e3, e4⟩ := actEnd (D := D) (S := S) (T := T) hop L.1 hX
    rw [e1, bs, mCk_t dk6]
    refine ⟨_, B', if_pos ?_, e2.mono (by omega), Or.inl e3.law, e4⟩
    dsimp only
    rw [rD6, upd_s]
  · rw [if_neg c]
    have hop := oDig h.1 (n := j + 1) (by omega)
    rw [if_neg c] at hop
    obtain ⟨G', B', e1, e2, e3, e4⟩ := actEnd (D := D) (S := S) (T := T) hop hLR h.2.2
    rw [e1, bs]
    exact ⟨_, B', if_pos rfl, e2.mono (by omega), Or.inr (by rw [e3]), e4⟩
/-- a setting -/
theorem aSetX (h : Sys k (lm 246 247 248 G D S T) B) {j : Nat} (hj : j < 3) {v : Int32} (hv : setL j v) : ActR k (lm 246 247 248 G D S T) B (
              mCk (mIn ((2 : Int32) + nI j) 10) <|
              mNm (up2 (lm 246 247 248 G D S T) 246 (((2 : Int32) + nI j).toNatClampNeg) v) fun G_56 =>
              mCk (mIn ((2 : Int32) + nI j) 10) <|
              (x5_set (nI j) (G_56 246 (((2 : Int32) + nI j).toNatClampNeg)) G_56).bind fun q_58 =>
              if q_58.1 = (lm 246 247 248 G D S T) 246 (((2 : Int32) + nI j).toNatClampNeg) then
                some ((1 : Int32), q_58.2)
              else
                some ((0 : Int32), q_58.2)) := by
  have hi := h.1.1.2.1
  have hm := hi.m
  have hLR := h.lr
  have e2 : (2 : Int32) + nI j = nI (2 + j) := nI_add 2 j
  have ed : D (2 + j) = B 247 (75 + j) := by
    obtain ⟨-, -, q0, q1, q2, -⟩ := hLR.1
    rcases (show j = 0 ∨ j = 1 ∨ j = 2 by omega) with rfl | rfl | rfl
    · exact q0
    · exact q1
    · exact q2
  have L : LR (upd D (2 + j) v) S T (upd (B 247) (75 + j) v) := by
    rcases (show j = 0 ∨ j = 1 ∨ j = 2 by omega) with rfl | rfl | rfl
    · exact hLR.sc2 hm
    · exact hLR.sc3 hm
    · exact hLR.sc4 hm
  have hop := oSetv (h.1.law (M1 := lm 246 247 248 G (upd D (2 + j) v) S T) lm_lo) hj hv
  rw [lawB_o (by decide)] at hop
  obtain ⟨G', B', g1, g2, g3, g4⟩ := actEnd (D := D) (S := S) (T := T) hop L (rX_upd h.2.2 hm (by omega))
  have hin : mIn ((2 : Int32) + nI j) 10 := by rw [e2]; exact jA_in (by omega) (by decide)
  have hcl : ((2 : Int32) + nI j).toNatClampNeg = 2 + j := by rw [e2]; exact jA_clamp (by omega)
  have hw : up2 (lm 246 247 248 G D S T) 246 (((2 : Int32) + nI j).toNatClampNeg) v = lm 246 247 248 G (upd D (2 + j) v) S T := by rw [hcl, lm_ua]
  have hr : ∀ D' : mR, lm 246 247 248 G D' S T 246 (((2 : Int32) + nI j).toNatClampNeg) = D' (2 + j) := fun D' => by rw [lm_a, hcl]
  rw [mCk_t hin, mNm_e, hw, mCk_t hin, hr, upd_s, g1, bs]
  refine ⟨_, B', if_pos ?_, g2.mono (by omega), Or.inl g3.law, g4⟩
  dsimp only
  rw [hr, ed]
/-- a load -/
theorem aLoadX (h : Sys k (lm 246 247 248 G D S T) B) {t : Nat} (ht : t < rM (B 247)) {j : Nat} (hj : j < 20) : ActR k (lm 246 247 248 G D S T) B (
                mCk (mIn (((10 : Int32) * nI t) + 1) 40) <|
                mNm ((lm 246 247 248 G D S T) 248 ((((10 : Int32) * nI t) + 1).toNatClampNeg)) fun v_32 =>
                (some (nI j) : Option Int32).bind fun q_33 =>
                mCk (mIn (((10 : Int32) * nI t) + 1) 40) <|
                mNm (up2 (lm 246 247 248 G D S T) 248 ((((10 : Int32) * nI t) + 1).toNatClampNeg) ((1 : Int32) + q_33)) fun G_35 =>
                mCk (mIn (((10 : Int32) * nI t) + 1) 40) <|
                (x5_setLoad (nI t) (G_35 248 ((((10 : Int32) * nI t) + 1).toNatClampNeg)) G_35).bind fun q_37 =>
                if q_37.1 = v_32 then
                  some ((1 : Int32), q_37.2)
                else
                  some ((0 : Int32), q_37.2)) := by
  have hi := h.1.1.2.1
  have hm := hi.m
  have hLR := h.lr
  have ht4 : t < 4 := by omega
  have hop := oLoad (h.1.law (M1 := lm 246 247 248 G D S (upd T (10 * t + 1) (nI (j + 1)))) lm_lo) (t := t) (y := j + 1) (by rw [lawB_o (by decide)]; exact ht) (by omega)
  rw [lawB_o (by decide)] at hop
  obtain ⟨G', B', g1, g2, g3, g4⟩ := actEnd (D := D) (S := S) (T := T) hop (hLR.put hm ht (by decide)) (rX_upd h.2.2 hm (by omega))
  rw [mCk_t (tk1 ht4), mNm_e, rT1 d678 ht4, bs, mCk_t (tk1 ht4), mNm_e, wT1 d678 ht4, mCk_t (tk1 ht4), rT1 d678 ht4, upd_s, show (1 : Int32) + nI j = nI (j + 1) by rw [show (1 : Int32) + nI j = nI (1 + j) from nI_add 1 j, Nat.add_comm], g1, bs]
  exact ⟨_, B', if_pos (hLR.tr ht (by decide)).symm, g2.mono (by omega), Or.inl g3.law, g4⟩
/-- no train is there -/
theorem aNoneX (h : Sys k (lm 246 247 248 G D S T) B) (h0 : rM (B 247) = 0) : ActR k (lm 246 247 248 G D S T) B (
              (x5_dropTrain (0 : Int32) (lm 246 247 248 G D S T)).bind fun q_39 =>
              if q_39.1 = (-2 : Int32) then
                (x5_setLoad (0 : Int32) (1 : Int32) q_39.2).bind fun q_41 =>
                if q_41.1 = (-2 : Int32) then
                  (x5_why (0 : Int32) q_41.2).bind fun q_43 =>
                  if q_43 = (-2 : Int32) then
                    some ((1 : Int32), q_41.2)
                  else
                    some ((0 : Int32), q_41.2)
                else
                  some ((0 : Int32), q_41.2)
              else
                some ((0 : Int32), q_39.2)) := by
  have hLR := h.lr
  obtain ⟨G1, B1, e1, e2, e3, e4⟩ := actEnd (D := D) (S := S) (T := T) (oDropN h.1 h0) hLR h.2.2
  subst e3
  obtain ⟨G2, B2, f1, f2, f3, f4⟩ := actEnd (D := D) (S := S) (T := T) (oLoadN e2.1 h0) hLR h.2.2
  subst f3
  rw [e1, bs, if_pos (show ((-2 : Int32), lm 246 247 248 G1 D S T).1 = -2 from rfl)]
  dsimp only
  rw [f1, bs, if_pos (show ((-2 : Int32), lm 246 247 248 G2 D S T).1 = -2 from rfl)]
  dsimp only
  rw [oWhyN f2.1 h0, bs]
  exact ⟨_, _, if_pos rfl, f2, Or.inr rfl, fun e he => (f4 e he).trans (e4 e he)⟩
/-- one train more -/
theorem lAdd0 (hLR : LR D S T (B 247)) (hi : rInv (B 247)) (hM : rM (B 247) < 4) (x y : Int32) : xL_act_L242 246 10 248 40 x y mFu 0 (lm 246 247 248 G D S T) = some (lm 246 247 248 G D S (fun k => if 10 * rM (B 247) ≤ k ∧ k < 10 * rM (B 247) + 10 then (if k = 10 * rM (B 247) then x else if k = 10 * rM (B 247) + 1 then y else 0) else T k)) := by
  obtain ⟨m, hm⟩ : ∃ m, rM (B 247) = m := ⟨_, rfl⟩
  have d1 : D 1 = nI m := by rw [hLR.d1 hi, hm]
  rw [hm] at hM ⊢
  have h := lpV (fun f (T : mR) i => xL_act_L242 246 10 248 40 x y f i (lm 246 247 248 G D S T)) (fun T => lm 246 247 248 G D S T) (fun i k => if 10 * m ≤ k ∧ k < 10 * m + i then (if k = 10 * m then x else if k = 10 * m + 1 then y else 0) else T k) 10 (by decide) (fun f i hi10 => ?_) (fun f => ?_)
  · rw [← h]
    show _ = xL_act_L242 246 10 248 40 x y mFu (nI 0) (lm 246 247 248 G D S (fun k => if 10 * m ≤ k ∧ k < 10 * m + 0 then (if k = 10 * m then x else if k = 10 * m + 1 then y else 0) else T k))
    congr 1
    congr 1
    funext k
    rw [if_neg (by omega)]
  · show xL_act_L242 246 10 248 40 x y (f + 1) (nI i) (lm 246 247 248 G D S _) = xL_act_L242 246 10 248 40 x y f (nI (i + 1)) (lm 246 247 248 G D S _)
    have ix : (10 : Int32) * nI m + nI i = nI (10 * m + i) := by rw [show (10 : Int32) * nI m = nI (10 * m) from pk_mul 10 m, nI_add]
    have hin : mIn ((10 : Int32) * nI m + nI i) 40 := by rw [ix]; exact jA_in (by omega) (by decide)
    have hcl : ((10 : Int32) * nI m + nI i).toNatClampNeg = 10 * m + i := by rw [ix]; exact jA_clamp (by omega)
    have hup : ∀ v, v = (if i = 0 then x else if i = 1 then y else 0) → (upd (fun k => if 10 * m ≤ k ∧ k < 10 * m + i then (if k = 10 * m then x else if k = 10 * m + 1 then y else 0) else T k) (10 * m + i) v) = (fun k => if 10 * m ≤ k ∧ k < 10 * m + (i + 1) then (if k = 10 * m then x else if k = 10 * m + 1 then y else 0) else T k) := fun v hv => by
      funext k
      unfold upd
      dsimp only
      by_cases e : k = 10 * m + i
      · rw [if_pos e, if_pos (show 10 * m ≤ k ∧ k < 10 * m + (i + 1) by omega), hv]
        by_cases i0 : i = 0
        · rw [if_pos i0, if_pos (show k = 10 * m by omega)]
        · rw [if_neg i0, if_neg (show ¬ k = 10 * m by omega)]
          by_cases i1 : i = 1
          · rw [if_pos i1, if_pos (show k = 10 * m + 1 by omega)]
          · rw [if_neg i1, if_neg (show ¬ k = 10 * m + 1 by omega)]
      · rw [if_neg e]
        by_cases q : 10 * m ≤ k ∧ k < 10 * m + i
        · rw [if_pos q, if_pos (show 10 * m ≤ k ∧ k < 10 * m + (i + 1) by omega)]
        · rw [if_neg q, if_neg (show ¬ (10 * m ≤ k ∧ k < 10 * m + (i + 1)) by omega)]
    rw [xL_act_L242, if_neg (show ¬ (10 : Int32) ≤ nI i from fun q => by have := (jA_nle (a := 10) (by decide) (by omega)).mp q; omega), mCk_t dk1, rD1, d1]
    by_cases i0 : i = 0
    · rw [if_pos (show nI i = 0 by rw [i0]; rfl), mCk_t hin, mNm_e, hcl, lm_uc d678, mNm_e, jA_1, hup _ (by rw [if_pos i0])]
    · rw [if_neg (nI_ne i0 (by omega))]
      by_cases i1 : i = 1
      · rw [if_pos (show nI i = 1 by rw [i1]; rfl), mCk_t hin, mNm_e, hcl, lm_uc d678, mNm_e, jA_1, hup _ (by rw [if_neg i0, if_pos i1])]
      · rw [if_neg (show ¬ nI i = 1 from fun q => i1 ((jA_neq (b := 1) (by omega) (by decide)).mp q)), mCk_t hin, mNm_e, hcl, lm_uc d678, mNm_e, jA_1, hup _ (by rw [if_neg i0, if_neg i1])]
  · show xL_act_L242 246 10 248 40 x y (f + 1) (nI 10) (lm 246 247 248 G D S _) = _
    rw [xL_act_L242, if_pos (show (10 : Int32) ≤ nI 10 by decide)]
theorem aAddX (h : Sys k (lm 246 247 248 G D S T) B) {x y : Nat} (hx : x < 6) (hy : y < 20) : ActR k (lm 246 247 248 G D S T) B (
        mNm ((1 : Int32) + nI x) fun v_81 =>
        (some (nI y) : Option Int32).bind fun q_82 =>
        mNm ((1 : Int32) + q_82) fun v_83 =>
        mCk (mIn (1 : Int32) 10) <|
        if ((lm 246 247 248 G D S T) 246 ((1 : Int32).toNatClampNeg)) = (4 : Int32) then
          (x5_addTrain v_81 v_83 (lm 246 247 248 G D S T)).bind fun q_106 =>
          if q_106.1 = (-4 : Int32) then
            some ((1 : Int32), q_106.2)
          else
            some ((0 : Int32), q_106.2)
        else
          (xL_act_L242 246 10 248 40 v_81 v_83 mFu (0 : Int32) (lm 246 247 248 G D S T)).bind fun q_99 =>
          mCk (mIn (1 : Int32) 10) <|
          mCk (mIn (1 : Int32) 10) <|
          mNm (up2 q_99 246 ((1 : Int32).toNatClampNeg) ((q_99 246 ((1 : Int32).toNatClampNeg)) + (1 : Int32))) fun G_102 =>
          (x5_addTrain v_81 v_83 G_102).bind fun q_103 =>
          mCk (mIn (1 : Int32) 10) <|
          if q_103.1 = ((q_103.2 246 ((1 : Int32).toNatClampNeg)) - (1 : Int32)) then
            some ((1 : Int32), q_103.2)
          else
            some ((0 : Int32), q_103.2)) := by
  have hi := h.1.1.2.1
  have hm := hi.m
  have hLR := h.lr
  have e1 : ∀ j, (1 : Int32) + nI j = nI (j + 1) := fun j => by rw [show (1 : Int32) + nI j = nI (1 + j) from nI_add 1 j, Nat.add_comm]
  rw [mNm_e, bs, mNm_e, e1, e1, mCk_t dk1, rD1, hLR.d1 hi]
  by_cases c : rM (B 247) = 4
  · have hop := oAdd h.1 (x := x + 1) (y := y + 1) (by omega) (by omega)
    rw [if_pos c] at hop
    obtain ⟨G', B', g1, g2, g3, g4⟩ := actEnd (D := D) (S := S) (T := T) hop hLR h.2.2
    rw [if_pos (show nI (rM (B 247)) = 4 by rw [c]; rfl), g1, bs]
    exact ⟨_, B', if_pos rfl, g2.mono (by omega), Or.inr (by rw [g3]), g4⟩
  · rw [if_neg (show ¬ nI (rM (B 247)) = 4 from fun q => c ((jA_neq (b := 4) (by omega) (by decide)).mp q)), lAdd0 hLR hi (by omega), bs, mCk_t dk1, mCk_t dk1, mNm_e, rD1, wD1, hLR.d1 hi, jA_1]
    obtain ⟨m, hmm⟩ : ∃ m, rM (B 247) = m := ⟨_, rfl⟩
    have hop := oAdd (h.1.law (M1 := lm 246 247 248 G (upd D 1 (nI (m + 1))) S (fun k => if 10 * m ≤ k ∧ k < 10 * m + 10 then (if k = 10 * m then nI (x + 1) else if k = 10 * m + 1 then nI (y + 1) else 0) else T k)) lm_lo) (x := x + 1) (y := y + 1) (by omega) (by omega)
    rw [lawB_o (by decide), if_neg c, hmm] at hop
    rw [hmm] at hm c ⊢
    have hM : rM (upd (upd (upd (zrT (B 247) m 9) (36 + 9 * m + 0) (nI (x + 1))) (36 + 9 * m + 1) (nI (y + 1))) 73 (nI (m + 1))) = m + 1 := by
      unfold rM; rw [upd_s, jA_clamp (by omega)]
    have hk : ∀ j, j ≠ 73 → (j < 36 + 9 * m ∨ 36 + 9 * m + 9 ≤ j) → upd (upd (upd (zrT (B 247) m 9) (36 + 9 * m + 0) (nI (x + 1))) (36 + 9 * m + 1) (nI (y + 1))) 73 (nI (m + 1)) j = B 247 j := fun j hj hj2 => by
      rw [upd_n hj, upd_n (by omega), upd_n (by omega)]; unfold zrT; rw [if_neg (by omega)]
    have hf0 : upd (upd (upd (zrT (B 247) m 9) (36 + 9 * m + 0) (nI (x + 1))) (36 + 9 * m + 1) (nI (y + 1))) 73 (nI (m + 1)) (36 + 9 * m + 0) = nI (x + 1) := by
      rw [upd_n (by omega), upd_n (by omega), upd_s]
    have hf1 : upd (upd (upd (zrT (B 247) m 9) (36 + 9 * m + 0) (nI (x + 1))) (36 + 9 * m + 1) (nI (y + 1))) 73 (nI (m + 1)) (36 + 9 * m + 1) = nI (y + 1) := by
      rw [upd_n (by omega), upd_s]
    have hf2 : ∀ j, 2 ≤ j → j < 9 → upd (upd (upd (zrT (B 247) m 9) (36 + 9 * m + 0) (nI (x + 1))) (36 + 9 * m + 1) (nI (y + 1))) 73 (nI (m + 1)) (36 + 9 * m + j) = 0 := fun j hj hj2 => by
      rw [upd_n (by omega), upd_n (by omega), upd_n (by omega)]; unfold zrT; rw [if_pos (by omega)]
    have h73 : upd (upd (upd (zrT (B 247) m 9) (36 + 9 * m + 0) (nI (x + 1))) (36 + 9 * m + 1) (nI (y + 1))) 73 (nI (m + 1)) 73 = nI (m + 1) := upd_s _ _ _
    revert hop hM hk hf0 hf1 hf2 h73
    generalize upd (upd (upd (zrT (B 247) m 9) (36 + 9 * m + 0) (nI (x + 1))) (36 + 9 * m + 1) (nI (y + 1))) 73 (nI (m + 1)) = w
    intro hop hM hk hf0 hf1 hf2 h73
    have hN : rN w = rN (B 247) := by unfold rN; rw [hk 72 (by decide) (by omega)]
    obtain ⟨⟨q0, q1, q2, q3, q4, q5, q6, q7, q8, q9⟩, hN8, hs, ht⟩ := hLR
    have L : LR (upd D 1 (nI (m + 1))) S (fun k => if 10 * m ≤ k ∧ k < 10 * m + 10 then (if k = 10 * m then nI (x + 1) else if k = 10 * m + 1 then nI (y + 1) else 0) else T k) w := by
      refine ⟨⟨?_, ?_, ?_, ?_, ?_, ?_, ?_, ?_, ?_, ?_⟩, by rw [hN]; exact hN8, fun s hs' => ?_, fun t ht' j hj => ?_⟩
      · rw [upd_n (by decide), hk 72 (by decide) (by omega)]; exact q0
      · rw [upd_s, h73]
      · rw [upd_n (by decide), hk 75 (by decide) (by omega)]; exact q2
      · rw [upd_n (by decide), hk 76 (by decide) (by omega)]; exact q3
      · rw [upd_n (by decide), hk 77 (by decide) (by omega)]; exact q4
      · rw [upd_n (by decide), hk 78 (by decide) (by omega)]; exact q5
      · rw [upd_n (by decide), hk 79 (by decide) (by omega)]; exact q6
      · rw [upd_n (by decide), hk 80 (by decide) (by omega)]; exact q7
      · rw [upd_n (by decide), hk 81 (by decide) (by omega)]; exact q8
      · rw [upd_n (by decide), hk 74 (by decide) (by omega)]; exact q9
      · rw [hN] at hs'
        unfold rPs rEnd
        rw [hN, hk (3 * s) (by omega) (by omega), hk (3 * s + 2) (by omega) (by omega), hk (3 * s + 1) (by omega) (by omega)]
        exact hs s hs'
      · rw [hM] at ht'
        by_cases e : t = m
        · subst e
          dsimp only
          rw [if_pos (by omega)]
          by_cases j0 : j = 0
          · subst j0; rw [if_pos (by omega), hf0]
          · rw [if_neg (by omega)]
            by_cases j1 : j = 1
            · subst j1; rw [if_pos rfl, hf1]
            · rw [if_neg (by omega), hf2 j (by omega) hj]
        · dsimp only
          rw [if_neg (by omega), hk _ (by omega) (by omega)]
          exact ht t (by omega) j hj
    have hX : rX w := by
      obtain ⟨x1, x2⟩ := h.2.2
      refine ⟨fun t ht' hu => ?_, ?_⟩
      · rw [hM] at ht'
        by_cases e : t = m
        · rw [e]; exact hf2 2 (by decide) (by decide)
        · rw [hk _ (by omega) (by omega)] at hu ⊢
          exact x1 t (by omega) hu
      · unfold rAc rPeat at x2 ⊢
        rw [hM, sumI, hf2 2 (by decide) (by decide), Int32.add_zero, hk 78 (by decide) (by omega), hk 79 (by decide) (by omega), hk 80 (by decide) (by omega), hk 81 (by decide) (by omega), sumI_cong (g := fun t => B 247 (36 + 9 * t + 2)) (fun i hi => hk _ (by omega) (by omega)), ← hmm]
        exact x2
    obtain ⟨G', B', g1, g2, g3, g4⟩ := actEnd (D := D) (S := S) (T := T) hop L hX
    rw [g1, bs, mCk_t dk1]
    refine ⟨_, B', if_pos ?_, g2.mono (by omega), Or.inl g3.law, g4⟩
    dsimp only
    rw [rD1, upd_s, show nI (m + 1) - (1 : Int32) = nI m from pk_sub (a := m + 1) (b := 1) (by omega)]
/-- one train less -/
theorem sumI_gone (f : Nat → Int32) {t : Nat} : ∀ {m : Nat}, t < m → sumI f m = sumI (fun i => f (if t ≤ i then i + 1 else i)) (m - 1) + f t
  | 0, h => absurd h (by omega)
  | m + 1, h => by
    by_cases e : t = m
    · subst e
      rw [sumI, Nat.add_sub_cancel]
      congr 1
      exact sumI_cong (fun i hi => by rw [if_neg (by omega)])
    · obtain ⟨q, rfl⟩ : ∃ q, m = q + 1 := ⟨m - 1, by omega⟩
      have ih := sumI_gone f (m := q + 1) (t := t) (by omega)
      rw [Nat.add_sub_cancel] at ih
      show sumI f (q + 1) + f (q + 1) = (sumI (fun i => f (if t ≤ i then i + 1 else i)) q + f (if t ≤ q then q + 1 else q)) + f t
      rw [ih, if_pos (show t ≤ q by omega), Int32.add_assoc, Int32.add_assoc, Int32.add_comm (f t)]
theorem lDrop0 {t m : Nat} (htm : t < m) (hm : m ≤ 4) (y7 y8 : Int32) (h1 : D 1 = nI (m - 1)) : xL_act_L632 246 10 248 40 y7 y8 mFu (nI (10 * t)) (lm 246 247 248 G D S T) = some (lm 246 247 248 G D S (fun k => if 10 * t ≤ k ∧ k < 10 * (m - 1) then T (k + 10) else T k)) := by
  have hLp := lpI (fun f (X : mR) i => xL_act_L632 246 10 248 40 y7 y8 f i (lm 246 247 248 G D S X)) (fun X => lm 246 247 248 G D S X) (fun i X => 10 * t ≤ i ∧ X = fun k => if 10 * t ≤ k ∧ k < i then T (k + 10) else T k) (10 * (m - 1)) (fun f i X hi hI => ?_) (fun f X hI => ?_) (10 * (m - 1 - t)) (10 * t) mFu T (by omega) (by unfold mFu; omega) ⟨Nat.le_refl _, by funext k; rw [if_neg (by omega)]⟩
  · obtain ⟨X, g1, -, g2⟩ := hLp
    rw [show xL_act_L632 246 10 248 40 y7 y8 mFu (nI (10 * t)) (lm 246 247 248 G D S T) = some (lm 246 247 248 G D S X) from g1, g2]
  · obtain ⟨h8, rfl⟩ := hI
    show ∃ X', xL_act_L632 246 10 248 40 y7 y8 (f + 1) (nI i) (lm 246 247 248 G D S _) = xL_act_L632 246 10 248 40 y7 y8 f (nI (i + 1)) (lm 246 247 248 G D S X') ∧ _
    have ei : nI i + (10 : Int32) = nI (i + 10) := nI_add i 10
    rw [xL_act_L632, mCk_t dk1, rD1, h1, show (10 : Int32) * nI (m - 1) = nI (10 * (m - 1)) from pk_mul 10 (m - 1), if_neg (show ¬ nI (10 * (m - 1)) ≤ nI i from fun q => by have := (jA_nle (by omega) (by omega)).mp q; omega), ei, mCk_t (jA_in (by omega) (by decide)), mCk_t (jA_in (by omega) (by decide)), mNm_e, mNm_e, jA_1, jA_clamp (by omega), jA_clamp (by omega), lm_c d678, lm_uc d678]
    refine ⟨_, rfl, by omega, ?_⟩
    funext k
    unfold upd
    dsimp only
    by_cases e : k = i
    · subst e
      rw [if_pos rfl, if_neg (by omega), if_pos (by omega)]
    · rw [if_neg e]
      by_cases e2 : 10 * t ≤ k ∧ k < i
      · rw [if_pos e2, if_pos (by omega)]
      · rw [if_neg e2, if_neg (by omega)]
  · obtain ⟨h8, rfl⟩ := hI
    show xL_act_L632 246 10 248 40 y7 y8 (f + 1) (nI (10 * (m - 1))) (lm 246 247 248 G D S _) = _
    rw [xL_act_L632, mCk_t dk1, rD1, h1, show (10 : Int32) * nI (m - 1) = nI (10 * (m - 1)) from pk_mul 10 (m - 1), if_pos ((jA_nle (by omega) (by omega)).mpr (Nat.le_refl _))]
theorem aDropX (h : Sys k (lm 246 247 248 G D S T) B) {t : Nat} (ht : t < rM (B 247)) : ActR k (lm 246 247 248 G D S T) B (
                  mCk (mIn (((10 : Int32) * nI t) + 2) 40) <|
                  mNm ((lm 246 247 248 G D S T) 248 ((((10 : Int32) * nI t) + 2).toNatClampNeg)) fun v_14 =>
                  mCk (mIn (8 : Int32) 10) <|
                  mCk (mIn (8 : Int32) 10) <|
                  mNm (up2 (lm 246 247 248 G D S T) 246 ((8 : Int32).toNatClampNeg) (((lm 246 247 248 G D S T) 246 ((8 : Int32).toNatClampNeg)) + v_14)) fun G_17 =>
                  mCk (mIn (1 : Int32) 10) <|
                  mCk (mIn (1 : Int32) 10) <|
                  mNm (up2 G_17 246 ((1 : Int32).toNatClampNeg) ((G_17 246 ((1 : Int32).toNatClampNeg)) - (1 : Int32))) fun G_20 =>
                  mNm ((10 : Int32) * nI t) fun v_21 =>
                  (xL_act_L632 246 10 248 40 (nI t) v_14 mFu v_21 G_20).bind fun q_28 =>
                  (x5_dropTrain (nI t) q_28).bind fun q_29 =>
                  if q_29.1 = v_14 then
                    some ((1 : Int32), q_29.2)
                  else
                    some ((0 : Int32), q_29.2)) := by
  have hi := h.1.1.2.1
  have hm := hi.m
  have hLR := h.lr
  have ht4 : t < 4 := by omega
  have d8 : D 8 = B 247 81 := hLR.1.2.2.2.2.2.2.2.2.1
  have d1 := hLR.d1 hi
  obtain ⟨m, hmm⟩ : ∃ m, rM (B 247) = m := ⟨_, rfl⟩
  have hop := oDrop (h.1.law (M1 := lm 246 247 248 G (upd (upd D 8 (B 247 81 + B 247 (36 + 9 * t + 2))) 1 (nI (m - 1))) S (fun k => if 10 * t ≤ k ∧ k < 10 * (m - 1) then T (k + 10) else T k)) lm_lo) (t := t) (by rw [lawB_o (by decide)]; exact ht)
  rw [lawB_o (by decide), hmm] at hop
  rw [hmm] at hm ht d1
  have hT : ∀ j, j < m - 1 → ∀ q, q < 9 → shT (upd (upd (B 247) 81 (B 247 81 + B 247 (36 + 9 * t + 2))) 73 (nI (m - 1))) (36 + 9 * t) (36 + 9 * (m - 1)) (36 + 9 * j + q) = B 247 (36 + 9 * (if t ≤ j then j + 1 else j) + q) := fun j hj q hq => by
    unfold shT
    by_cases e : t ≤ j
    · rw [if_pos (by omega), if_pos e, upd_n (by omega), upd_n (by omega)]
      congr 1
      omega
    · rw [if_neg (by omega), if_neg e, upd_n (by omega), upd_n (by omega)]
  have hK : ∀ j, (j < 36 ∨ (72 ≤ j ∧ j ≠ 73 ∧ j ≠ 81)) → shT (upd (upd (B 247) 81 (B 247 81 + B 247 (36 + 9 * t + 2))) 73 (nI (m - 1))) (36 + 9 * t) (36 + 9 * (m - 1)) j = B 247 j := fun j hj => by
    unfold shT
    rw [if_neg (by omega), upd_n (by omega), upd_n (by omega)]
  have h73 : shT (upd (upd (B 247) 81 (B 247 81 + B 247 (36 + 9 * t + 2))) 73 (nI (m - 1))) (36 + 9 * t) (36 + 9 * (m - 1)) 73 = nI (m - 1) := by
    unfold shT
    rw [if_neg (by omega), upd_s]
  have h81 : shT (upd (upd (B 247) 81 (B 247 81 + B 247 (36 + 9 * t + 2))) 73 (nI (m - 1))) (36 + 9 * t) (36 + 9 * (m - 1)) 81 = B 247 81 + B 247 (36 + 9 * t + 2) := by
    unfold shT
    rw [if_neg (by omega), upd_n (by decide), upd_s]
  revert hop hT hK h73 h81
  generalize shT (upd (upd (B 247) 81 (B 247 81 + B 247 (36 + 9 * t + 2))) 73 (nI (m - 1))) (36 + 9 * t) (36 + 9 * (m - 1)) = w
  intro hop hT hK h73 h81
  have hM : rM w = m - 1 := by unfold rM; rw [h73, jA_clamp (by omega)]
  have hN : rN w = rN (B 247) := by unfold rN; rw [hK 72 (by omega)]
  obtain ⟨⟨q0, q1, q2, q3, q4, q5, q6, q7, q8, q9⟩, hN8, hs, htr⟩ := id hLR
  have L : LR (upd (upd D 8 (B 247 81 + B 247 (36 + 9 * t + 2))) 1 (nI (m - 1))) S (fun k => if 10 * t ≤ k ∧ k < 10 * (m - 1) then T (k + 10) else T k) w := by
    refine ⟨⟨?_, ?_, ?_, ?_, ?_, ?_, ?_, ?_, ?_, ?_⟩, by rw [hN]; exact hN8, fun s hs' => ?_, fun u hu j hj => ?_⟩
    · rw [upd_n (by decide), upd_n (by decide), hK 72 (by omega)]; exact q0
    · rw [upd_s, h73]
    · rw [upd_n (by decide), upd_n (by decide), hK 75 (by omega)]; exact q2
    · rw [upd_n (by decide), upd_n (by decide), hK 76 (by omega)]; exact q3
    · rw [upd_n (by decide), upd_n (by decide), hK 77 (by omega)]; exact q4
    · rw [upd_n (by decide), upd_n (by decide), hK 78 (by omega)]; exact q5
    · rw [upd_n (by decide), upd_n (by decide), hK 79 (by omega)]; exact q6
    · rw [upd_n (by decide), upd_n (by decide), hK 80 (by omega)]; exact q7
    · rw [upd_n (by decide), upd_s, h81]
    · rw [upd_n (by decide), upd_n (by decide), hK 74 (by omega)]; exact q9
    · rw [hN] at hs'
      unfold rPs rEnd
      rw [hN, hK (3 * s) (by omega), hK (3 * s + 2) (by omega), hK (3 * s + 1) (by omega)]
      exact hs s hs'
    · rw [hM] at hu
      rw [hT u hu j hj]
      dsimp only
      by_cases e : t ≤ u
      · rw [if_pos (by omega), if_pos e, ← htr (u + 1) (by omega) j hj]
        congr 1
        omega
      · rw [if_neg (by omega), if_neg e]
        exact htr u (by omega) j hj
  have hX : rX w := by
    obtain ⟨x1, x2⟩ := h.2.2
    refine ⟨fun u hu hup => ?_, ?_⟩
    · rw [hM] at hu
      rw [hT u hu 4 (by decide)] at hup
      rw [hT u hu 2 (by decide)]
      by_cases e : t ≤ u
      · rw [if_pos e] at hup ⊢; exact x1 _ (by omega) hup
      · rw [if_neg e] at hup ⊢; exact x1 _ (by omega) hup
    · unfold rAc rPeat at x2 ⊢
      rw [hM, hK 78 (by omega), hK 79 (by omega), hK 80 (by omega), h81, x2, hmm, sumI_gone (fun t => B 247 (36 + 9 * t + 2)) ht, sumI_cong (f := fun t => w (36 + 9 * t + 2)) (g := fun i => B 247 (36 + 9 * (if t ≤ i then i + 1 else i) + 2)) (fun i hi => hT i hi 2 (by decide))]
      ac_rfl
  obtain ⟨G', B', g1, g2, g3, g4⟩ := actEnd (D := D) (S := S) (T := T) hop L hX
  rw [mCk_t (tk2 ht4), mNm_e, rT2 d678 ht4, hLR.tr (by omega) (by decide), mCk_t dk8, mCk_t dk8, mNm_e, rD8, wD8, mCk_t dk1, mCk_t dk1, mNm_e, rD1, wD1, upd_n (show (1 : Nat) ≠ 8 by decide), d1, d8, show nI m - (1 : Int32) = nI (m - 1) from pk_sub (a := m) (b := 1) (by omega), mNm_e, show (10 : Int32) * nI t = nI (10 * t) from pk_mul 10 t, lDrop0 (m := m) ht hm _ _ (upd_s _ _ _), bs, g1, bs]
  exact ⟨_, B', if_pos rfl, g2.mono (by omega), Or.inl g3.law, g4⟩
end ACTS
