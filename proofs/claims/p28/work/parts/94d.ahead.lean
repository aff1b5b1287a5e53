/-! ahead answers 1 -/
def AhR (k : Nat) (M B : mM) (x : Option (Int32 × mM)) : Prop := ∃ M' B', x = some (1, M') ∧ Sys (k + 4) M' B' ∧ B' 247 = B 247 ∧ ∀ e, 246 ≤ e → e < 252 → M' e = M e
section AHEAD2
variable {k : Nat} {M B : mM}
theorem ahEnd (h : Sys k M B) {k' : Nat} (hk : k' ≤ k + 4) {A B' : mM} (R : Rel k' A B') (e7 : B' 247 = B 247) (hA : ∀ e, 246 ≤ e → e < 252 → A e = M e) : AhR k M B (some (1, A)) := ⟨A, B', rfl, ⟨R.mono hk, by rw [hA 246 (by decide) (by decide), hA 247 (by decide) (by decide), hA 248 (by decide) (by decide), e7]; exact h.2.1, by rw [e7]; exact h.2.2⟩, e7, hA⟩
theorem relL (h : Sys k M B) {D S T : mR} : Rel k (lm 252 253 254 M D S T) (lawB B (lm 252 253 254 M D S T)) := h.1.law (fun e he => lm_o (by omega) (by omega) (by omega))
theorem lmOf4 {A : mM} {D S T : mR} (h : ∀ e, 246 ≤ e → A e = lm 252 253 254 M D S T e) : A = lm 252 253 254 A D S T := by
  have ea : A 252 = D := (h 252 (by decide)).trans lm_a
  have eb : A 253 = S := (h 253 (by decide)).trans (lm_b d234)
  have ec : A 254 = T := (h 254 (by decide)).trans (lm_c d234)
  rw [← ea, ← eb, ← ec, lm_id]
theorem lmLo {A : mM} {D S T : mR} (h : ∀ e, 246 ≤ e → A e = lm 252 253 254 M D S T e) : ∀ e, 246 ≤ e → e < 252 → A e = M e := fun e h1 h2 => by rw [h e h1, lm_o (by omega) (by omega) (by omega)]
theorem lmSun {A : mM} {D S T w : mR} (h : ∀ e, 246 ≤ e → A e = lm 252 253 254 M D S T e) (hL : LR D S T w) (hi : rInv w) : xL_sunk 252 10 253 24 A = some (rDeep w) := by
  rw [lmOf4 h]
  exact lSunk hL d234 hi
theorem lmSum {A : mM} {D S T w : mR} (h : ∀ e, 246 ≤ e → A e = lm 252 253 254 M D S T e) (hL : LR D S T w) (hi : rInv w) : xL_sum ((7 : Int32)) 252 10 254 40 A = some (rWaits w) := by
  rw [lmOf4 h]
  exact lSum (w := 7) hL d234 hi (by decide)
theorem lmSu0 {A : mM} {z : mR} (h : ∀ e, 246 ≤ e → e < 252 → A e = M e) (hL : LR (M 246) (M 247) (M 248) z) (hi : rInv z) : xL_sum ((7 : Int32)) 246 10 248 40 A = some (rWaits z) := by
  have e : A = lm 246 247 248 A (M 246) (M 247) (M 248) := by rw [← h 246 (by decide) (by decide), ← h 247 (by decide) (by decide), ← h 248 (by decide) (by decide), lm_id]
  rw [e]
  exact lSum (w := 7) hL d678 hi (by decide)
set_option maxHeartbeats 4000000 in
theorem ah0 (h : Sys k M B) {n : Nat} (hn : 1 ≤ n ∧ n ≤ 200) : AhR k M B (
    (xL_copy 246 10 252 10 (lm 252 253 254 M (fun _ => 0) (fun _ => 0) (fun _ => 0))).bind fun q_79 =>
    (xL_copy 247 24 253 24 q_79).bind fun q_80 =>
    (xL_copy 248 40 254 40 q_80).bind fun q_81 =>
    (xL_ahead_T_L67 (nI n) mFu ((0 : Int32)) ((0 : Int32)) q_81).bind fun q_89 =>
    (x5_ifRun (nI n) ((0 : Int32)) q_89.2).bind fun q_90 =>
    if q_90.1 = ((q_90.2 252 7) - (q_90.2 246 7)) then
      (x5_ifRun (nI n) ((1 : Int32)) q_90.2).bind fun q_92 =>
      (xL_sunk 252 10 253 24 q_92.2).bind fun q_93 =>
      if q_92.1 = q_93 then
        (x5_ifRun (nI n) ((2 : Int32)) q_92.2).bind fun q_95 =>
        (xL_sum ((7 : Int32)) 252 10 254 40 q_95.2).bind fun q_96 =>
        (xL_sum ((7 : Int32)) 246 10 248 40 q_95.2).bind fun q_97 =>
        if q_95.1 = (q_96 - q_97) then
          (x5_ifRun (nI n) ((3 : Int32)) q_95.2).bind fun q_99 =>
          if q_99.1 = q_89.1 then
            some ((1 : Int32), q_99.2)
          else
            some ((0 : Int32), q_99.2)
        else
          some ((0 : Int32), q_95.2)
      else
        some ((0 : Int32), q_92.2)
    else
      some ((0 : Int32), q_90.2)) := by
  have hi := h.1.1.2.1
  have hm := hi.m
  have hx := h.2.2
  have iT := rTicks_inv hi n
  obtain ⟨D1, S1, T1, g1, g2⟩ := aL67 (M := M) (aLR (D := fun _ => 0) (S := fun _ => 0) (T := fun _ => 0) h.2.1 hm) hi hx (n := n) (by omega)
  have d7 : D1 7 = rTicks (B 247) n 80 := g2.1.2.2.2.2.2.2.2.1
  have m7 : M 246 7 = B 247 80 := h.2.1.1.2.2.2.2.2.2.2.1
  obtain ⟨A1, B1, e1, R1, z1, k1, -⟩ := oIf (relL h (D := D1) (S := S1) (T := T1)) hn (x := 0) (by decide)
  rw [lawB_o (by decide)] at e1 z1
  obtain ⟨A2, B2, e2, R2, z2, k2, -⟩ := oIf R1 hn (x := 1) (by decide)
  rw [z1] at e2 z2
  obtain ⟨A3, B3, e3, R3, z3, k3, -⟩ := oIf R2 hn (x := 2) (by decide)
  rw [z2] at e3 z3
  obtain ⟨A4, B4, e4, R4, z4, k4, -⟩ := oIf R3 hn (x := 3) (by decide)
  rw [z3] at e4 z4
  have k2' : ∀ e, 246 ≤ e → A2 e = lm 252 253 254 M D1 S1 T1 e := fun e he => (k2 e he).trans (k1 e he)
  have k3' : ∀ e, 246 ≤ e → A3 e = lm 252 253 254 M D1 S1 T1 e := fun e he => (k3 e he).trans (k2' e he)
  have k4' : ∀ e, 246 ≤ e → A4 e = lm 252 253 254 M D1 S1 T1 e := fun e he => (k4 e he).trans (k3' e he)
  rw [aC1, bs, aC2, bs, aC3, bs, show xL_ahead_T_L67 (nI n) mFu ((0 : Int32)) ((0 : Int32)) _ = _ from g1, bs]
  dsimp only
  rw [e1, bs]
  dsimp only
  rw [if_pos (show rAh (B 247) n 0 = A1 252 7 - A1 246 7 by rw [rAh, if_pos rfl, k1 252 (by decide), lm_a, lmLo k1 246 (by decide) (by decide), d7, m7]), e2, bs]
  dsimp only
  rw [lmSun k2' g2 iT, bs, if_pos (show rAh (B 247) n 1 = rDeep (rTicks (B 247) n) by rw [rAh, if_neg (by decide), if_pos rfl]), e3, bs]
  dsimp only
  rw [lmSum k3' g2 iT, bs, lmSu0 (lmLo k3') h.2.1 hi, bs, if_pos (show rAh (B 247) n 2 = rWaits (rTicks (B 247) n) - rWaits (B 247) by rw [rAh, if_neg (by decide), if_neg (by decide), if_pos rfl]), e4, bs]
  dsimp only
  rw [if_pos (show rAh (B 247) n 3 = rPk (B 247) n by rw [rAh, if_neg (by decide), if_neg (by decide), if_neg (by decide)])]
  exact ahEnd h (Nat.le_refl _) R4 z4 (lmLo k4')
set_option maxHeartbeats 4000000 in
theorem ah1 (h : Sys k M B) (hk : k < 3000) (x1 : Int32) : AhR k M B (
      (xL_at (x1 >>> ((9 : Int32) &&& 31)) ((120 : Int32)) (lm 252 253 254 M (fun _ => 0) (fun _ => 0) (fun _ => 0))).bind fun q_65 =>
      mNm (((1 : Int32)) + q_65) fun v_66 =>
      (xL_copy 246 10 252 10 (lm 252 253 254 M (fun _ => 0) (fun _ => 0) (fun _ => 0))).bind fun q_67 =>
      (xL_copy 247 24 253 24 q_67).bind fun q_68 =>
      (xL_copy 248 40 254 40 q_68).bind fun q_69 =>
      (xL_ahead_T_L239 v_66 mFu ((0 : Int32)) q_69).bind fun q_74 =>
      (x5_ticksFor v_66 q_74.2).bind fun q_75 =>
      if q_74.1 ≤ ((500 : Int32)) then
        if q_75.1 = q_74.1 then
          some ((1 : Int32), q_75.2)
        else
          some ((0 : Int32), q_75.2)
      else
        if q_75.1 = ((-1 : Int32)) then
          some ((1 : Int32), q_75.2)
        else
          some ((0 : Int32), q_75.2)) := by
  have hi := h.1.1.2.1
  have hm := hi.m
  have hx := h.2.2
  have m7 : M 246 7 = B 247 80 := h.2.1.1.2.2.2.2.2.2.2.1
  obtain ⟨j, hj, ej⟩ : ∃ j, j < 120 ∧ ∀ G : mM, xL_at (x1 >>> ((9 : Int32) &&& 31)) ((120 : Int32)) G = some (nI j) := ⟨atV (x1 >>> ((9 : Int32) &&& 31)) 120, atV_lt _ (by decide), fun G => atE _ (by decide) (by decide) G⟩
  obtain ⟨D1, S1, T1, g1⟩ := aL239 (M := M) hi hx (nI (j + 1)) m7 501 0 mFu _ _ _ rfl (by unfold mFu; decide) (aLR (D := fun _ => 0) (S := fun _ => 0) (T := fun _ => 0) h.2.1 hm)
  obtain ⟨A1, B1, e1, R1, z1, k1, -⟩ := oFor (relL h (D := D1) (S := S1) (T := T1)) hk (n := j + 1) (by omega)
  rw [lawB_o (by decide)] at e1 z1
  have fin := ahEnd h (show k + 1 ≤ k + 4 by omega) R1 z1 (lmLo k1)
  rw [ej, bs, mNm_e, show ((1 : Int32)) + nI j = nI (j + 1) by rw [show (1 : Int32) + nI j = nI (1 + j) from nI_add 1 j, Nat.add_comm], aC1, bs, aC2, bs, aC3, bs, show xL_ahead_T_L239 (nI (j + 1)) mFu ((0 : Int32)) _ = _ from g1, bs]
  dsimp only
  rw [e1, bs]
  dsimp only
  have hle := (fT_le (rGoal (B 247) (nI (j + 1))) 500 0).2
  have hs : fT (rGoal (B 247) (nI (j + 1))) 501 0 = if rGoal (B 247) (nI (j + 1)) (fT (rGoal (B 247) (nI (j + 1))) 500 0) then fT (rGoal (B 247) (nI (j + 1))) 500 0 else fT (rGoal (B 247) (nI (j + 1))) 500 0 + 1 := fT_s _ 500 0
  by_cases q : rTicks (B 247) (fT (rGoal (B 247) (nI (j + 1))) 500 0) 80 < B 247 80 + nI (j + 1)
  · have h500 : ¬ fT (rGoal (B 247) (nI (j + 1))) 500 0 < 0 + 500 := fun q2 => (fT_p (rGoal (B 247) (nI (j + 1))) 500 0 q2) q
    have e501 : fT (rGoal (B 247) (nI (j + 1))) 501 0 = 501 := by rw [hs, if_neg (fun r => r q)]; omega
    rw [e501, if_pos q, if_neg (show ¬ nI 501 ≤ ((500 : Int32)) by decide), if_pos rfl]
    exact fin
  · rw [if_pos (show rGoal (B 247) (nI (j + 1)) (fT (rGoal (B 247) (nI (j + 1))) 500 0) from q)] at hs
    rw [hs, if_neg q, if_pos (show nI (fT (rGoal (B 247) (nI (j + 1))) 500 0) ≤ ((500 : Int32)) from (jA_nle (b := 500) (by omega) (by omega)).mpr (by omega)), if_pos rfl]
    exact fin
theorem bstB {z : mR} (hi : rInv z) (hd : Del k z) (hk : k < 3000) {idx n : Nat} {v : Int32} (h80 : idx ≠ 80) (hn : n ≤ 200) (hiv : rInv (upd z idx v)) : (z 80).toInt ≤ (rTicks (upd z idx v) n 80).toInt ∧ (rTicks (upd z idx v) n 80).toInt ≤ 1900000000 := by
  have e : upd z idx v 80 = z 80 := upd_n (Ne.symm h80)
  have b : 0 ≤ (upd z idx v 80).toInt ∧ (upd z idx v 80).toInt ≤ 700000000 := by rw [e]; exact ⟨hd.1, by have := hd.2; omega⟩
  have h1 := rTicks_80m hiv b n (by omega)
  have h2 := rTicks_80 hiv (B := 700000000) (by decide) b n (by omega)
  rw [e] at h1
  exact ⟨h1, by omega⟩
set_option maxHeartbeats 4000000 in
theorem ah2 (h : Sys k M B) (hk : k < 3000) {n : Nat} (hn : 1 ≤ n ∧ n ≤ 200) : AhR k M B (
          (xL_ahead_T_L361 (nI 2) (nI n) ((0 : Int32)) mFu ((-1 : Int32)) ((0 : Int32)) ((0 : Int32)) (lm 252 253 254 M (fun _ => 0) (fun _ => 0) (fun _ => 0))).bind fun q_48 =>
          (x5_bestRule (nI n) q_48.2).bind fun q_50 =>
          if q_50.1 = q_48.1 then
            some ((1 : Int32), q_50.2)
          else
            some ((0 : Int32), q_50.2)) := by
  have hi := h.1.1.2.1
  have hm := hi.m
  have hx := h.2.2
  have hd := h.1.1.2.2
  have hv : ∀ i, i < 3 → rInv (upd (B 247) 77 (nI i)) := fun i hi3 => rInv_setv hi (j := 2) (by decide) ⟨fun e => absurd e (by decide), fun e => absurd e (by decide), fun _ => by
    rcases (show i = 0 ∨ i = 1 ∨ i = 2 by omega) with rfl | rfl | rfl
    · exact Or.inl rfl
    · exact Or.inr (Or.inl rfl)
    · exact Or.inr (Or.inr rfl)⟩
  obtain ⟨D1, S1, T1, g1⟩ := lBest (M := M) (z := B 247) (D := fun _ => 0) (S := fun _ => 0) (T := fun _ => 0) (idx := 77) (lo := 0) (c := 3) (n0 := n) (by decide) (by decide) (fun f a b c m => xL_ahead_T_L361 (nI 2) (nI n) 0 f a b c m) hd.1 (fun i _ hi3 => bstB hi hd hk (by decide) hn.2 (hv i (by omega))) (fun f i w11 w12 D S T _ hi3 => by
      have L : LR (upd (cD M D) 4 (nI i)) (cS M S) (cT M T) (upd (B 247) 77 (nI i)) := (aLR (D := D) (S := S) (T := T) h.2.1 hm).sc4 hm
      obtain ⟨D1, S1, T1, g1, g2⟩ := aL427 (M := M) L (hv i (by omega)) (rX_upd hx hm (Or.inr (Or.inr (by decide)))) (n := n) (by omega) (nI 2) 0 w11 w12 (nI i)
      refine ⟨D1, S1, T1, g2.1.2.2.2.2.2.2.2.1, ?_⟩
      show xL_ahead_T_L361 (nI 2) (nI n) 0 (f + 1) w11 w12 (nI i) (lm 252 253 254 M D S T) = if w11 < 0 then xL_ahead_T_L361 (nI 2) (nI n) 0 f (nI i) (D1 7) (nI (i + 1)) (lm 252 253 254 M D1 S1 T1) else if w12 < D1 7 then xL_ahead_T_L361 (nI 2) (nI n) 0 f (nI i) (D1 7) (nI (i + 1)) (lm 252 253 254 M D1 S1 T1) else xL_ahead_T_L361 (nI 2) (nI n) 0 f w11 w12 (nI (i + 1)) (lm 252 253 254 M D1 S1 T1)
      rw [xL_ahead_T_L361, if_pos (show nI 2 = ((2 : Int32)) from rfl), if_neg (show ¬ ((3 : Int32)) ≤ nI i from fun q => by have := (jA_nle (a := 3) (by omega) (by omega)).mp q; omega), aC1, bs, aC2, bs, aC3, bs, mNm_e, lm_ua, show xL_ahead_T_L427 (nI 2) (nI n) 0 w11 w12 (nI i) mFu ((0 : Int32)) _ = _ from g1, bs]
      simp only [mNm_e, lm_a, show nI i + (1 : Int32) = nI (i + 1) from jA_1 i])
    (fun f w11 w12 D S T => by
      show xL_ahead_T_L361 (nI 2) (nI n) 0 (f + 1) w11 w12 (nI (0 + 3)) (lm 252 253 254 M D S T) = _
      rw [xL_ahead_T_L361, if_pos (show nI 2 = ((2 : Int32)) from rfl), if_pos (show ((3 : Int32)) ≤ nI (0 + 3) by decide)])
  obtain ⟨A1, B1, e1, R1, z1, k1, -⟩ := oRule (relL h (D := D1) (S := S1) (T := T1)) hn
  rw [lawB_o (by decide)] at e1 z1
  rw [show xL_ahead_T_L361 (nI 2) (nI n) ((0 : Int32)) mFu ((-1 : Int32)) ((0 : Int32)) ((0 : Int32)) _ = _ from g1, bs]
  dsimp only
  rw [e1, bs]
  dsimp only
  rw [if_pos rfl]
  exact ahEnd h (show k + 1 ≤ k + 4 by omega) R1 z1 (lmLo k1)
set_option maxHeartbeats 4000000 in
theorem ah3 (h : Sys k M B) (hk : k < 3000) {n : Nat} (hn : 1 ≤ n ∧ n ≤ 200) (x1 : Int32) (hM : 1 ≤ rM (B 247)) : AhR k M B (
            (xL_at (x1 >>> ((10 : Int32) &&& 31)) ((lm 252 253 254 M (fun _ => 0) (fun _ => 0) (fun _ => 0)) 246 1) (lm 252 253 254 M (fun _ => 0) (fun _ => 0) (fun _ => 0))).bind fun q_54 =>
            (xL_ahead_T_L361 (nI 3) (nI n) q_54 mFu ((-1 : Int32)) ((0 : Int32)) ((1 : Int32)) (lm 252 253 254 M (fun _ => 0) (fun _ => 0) (fun _ => 0))).bind fun q_56 =>
            (x5_bestLoad q_54 (nI n) q_56.2).bind fun q_58 =>
            if q_58.1 = q_56.1 then
              some ((1 : Int32), q_58.2)
            else
              some ((0 : Int32), q_58.2)) := by
  have hi := h.1.1.2.1
  have hm := hi.m
  have hx := h.2.2
  have hd := h.1.1.2.2
  have m1 : M 246 1 = nI (rM (B 247)) := h.2.1.d1 hi
  obtain ⟨t, ht, et⟩ : ∃ t, t < rM (B 247) ∧ ∀ G : mM, xL_at (x1 >>> ((10 : Int32) &&& 31)) (nI (rM (B 247))) G = some (nI t) := ⟨atV (x1 >>> ((10 : Int32) &&& 31)) (rM (B 247)), atV_lt _ hM, fun G => atE _ hM (by omega) G⟩
  have ht4 : t < 4 := by omega
  have hv : ∀ i, 1 ≤ i → i < 21 → rInv (upd (B 247) (36 + 9 * t + 1) (nI i)) := fun i hi1 hi3 => rInv_put hi ht (by decide) ⟨fun e => absurd e (by decide), fun _ => by rw [jA_n (by omega)]; omega, fun e => absurd e (by decide), fun e => absurd e (by decide), fun e => absurd e (by decide)⟩
  obtain ⟨D1, S1, T1, g1⟩ := lBest (M := M) (z := B 247) (D := fun _ => 0) (S := fun _ => 0) (T := fun _ => 0) (idx := 36 + 9 * t + 1) (lo := 1) (c := 20) (n0 := n) (by decide) (by decide) (fun f a b c m => xL_ahead_T_L361 (nI 3) (nI n) (nI t) f a b c m) hd.1 (fun i hi1 hi3 => bstB hi hd hk (by omega) hn.2 (hv i hi1 (by omega))) (fun f i w11 w12 D S T hi1 hi3 => by
      have L : LR (cD M D) (cS M S) (upd (cT M T) (10 * t + 1) (nI i)) (upd (B 247) (36 + 9 * t + 1) (nI i)) := (aLR (D := D) (S := S) (T := T) h.2.1 hm).put hm ht (by decide)
      obtain ⟨D1, S1, T1, g1, g2⟩ := aL427 (M := M) L (hv i hi1 (by omega)) (rX_upd hx hm (Or.inl ⟨by omega, by omega, by omega, by omega⟩)) (n := n) (by omega) (nI 3) (nI t) w11 w12 (nI i)
      refine ⟨D1, S1, T1, g2.1.2.2.2.2.2.2.2.1, ?_⟩
      show xL_ahead_T_L361 (nI 3) (nI n) (nI t) (f + 1) w11 w12 (nI i) (lm 252 253 254 M D S T) = if w11 < 0 then xL_ahead_T_L361 (nI 3) (nI n) (nI t) f (nI i) (D1 7) (nI (i + 1)) (lm 252 253 254 M D1 S1 T1) else if w12 < D1 7 then xL_ahead_T_L361 (nI 3) (nI n) (nI t) f (nI i) (D1 7) (nI (i + 1)) (lm 252 253 254 M D1 S1 T1) else xL_ahead_T_L361 (nI 3) (nI n) (nI t) f w11 w12 (nI (i + 1)) (lm 252 253 254 M D1 S1 T1)
      rw [xL_ahead_T_L361, if_neg (show ¬ nI 3 = ((2 : Int32)) by decide), if_neg (show ¬ ((21 : Int32)) ≤ nI i from fun q => by have := (jA_nle (a := 21) (by omega) (by omega)).mp q; omega), aC1, bs, aC2, bs, aC3, bs, mCk_t (show mIn (((10 : Int32)) * nI t + ((1 : Int32))) 40 from (tI (t := t) (k := 1) (by omega)).1), mNm_e, wT1 d234 ht4, show xL_ahead_T_L427 (nI 3) (nI n) (nI t) w11 w12 (nI i) mFu ((0 : Int32)) _ = _ from g1, bs]
      simp only [mNm_e, lm_a, show nI i + (1 : Int32) = nI (i + 1) from jA_1 i])
    (fun f w11 w12 D S T => by
      show xL_ahead_T_L361 (nI 3) (nI n) (nI t) (f + 1) w11 w12 (nI (1 + 20)) (lm 252 253 254 M D S T) = _
      rw [xL_ahead_T_L361, if_neg (show ¬ nI 3 = ((2 : Int32)) by decide), if_pos (show ((21 : Int32)) ≤ nI (1 + 20) by decide)])
  obtain ⟨A1, B1, e1, R1, z1, k1, -⟩ := oBestL (relL h (D := D1) (S := S1) (T := T1)) hn (t := t) (by rw [lawB_o (by decide)]; exact ht)
  rw [lawB_o (by decide)] at e1 z1
  obtain ⟨r, hr⟩ : ∃ r, r = (rBst (B 247) (36 + 9 * t + 1) n 1 20).1 := ⟨_, rfl⟩
  rw [← hr] at g1 e1
  rw [lm_o (show (246 : Nat) ≠ 252 by decide) (by decide) (by decide), m1, et, bs, show xL_ahead_T_L361 (nI 3) (nI n) (nI t) mFu ((-1 : Int32)) ((0 : Int32)) ((1 : Int32)) _ = _ from g1, bs]
  dsimp only
  rw [e1, bs]
  dsimp only
  rw [if_pos rfl]
  exact ahEnd h (show k + 1 ≤ k + 4 by omega) R1 z1 (lmLo k1)
set_option maxHeartbeats 4000000 in
theorem lAhead (h : Sys k M B) (hk : k < 3000) (x1 : Int32) : AhR k M B (xL_ahead x1 M) := by
  have hi := h.1.1.2.1
  obtain ⟨j, hj, ej⟩ : ∃ j, j < 4 ∧ ∀ G : mM, xL_at x1 ((4 : Int32)) G = some (nI j) := ⟨atV x1 4, atV_lt _ (by decide), fun G => atE _ (by decide) (by decide) G⟩
  obtain ⟨n, hn, en⟩ : ∃ n, n < 90 ∧ ∀ G : mM, xL_at (x1 >>> ((2 : Int32) &&& 31)) ((90 : Int32)) G = some (nI n) := ⟨atV (x1 >>> ((2 : Int32) &&& 31)) 90, atV_lt _ (by decide), fun G => atE _ (by decide) (by decide) G⟩
  have m1 : M 246 1 = nI (rM (B 247)) := h.2.1.d1 hi
  have hm := hi.m
  unfold xL_ahead xL_ahead_T
  rw [rz3, ej, bs, en, bs, mNm_e, show ((1 : Int32)) + nI n = nI (n + 1) by rw [show (1 : Int32) + nI n = nI (1 + n) from nI_add 1 n, Nat.add_comm]]
  rcases (show j = 0 ∨ j = 1 ∨ j = 2 ∨ j = 3 by omega) with rfl | rfl | rfl | rfl
  · rw [if_pos (show nI 0 = 0 from rfl)]
    exact ah0 h (by omega)
  · rw [if_neg (show ¬ nI 1 = 0 by decide), if_pos (show nI 1 = ((1 : Int32)) from rfl)]
    exact ah1 h hk x1
  · rw [if_neg (show ¬ nI 2 = 0 by decide), if_neg (show ¬ nI 2 = ((1 : Int32)) by decide), if_neg (show ¬ nI 2 = ((3 : Int32)) by decide), if_pos (show nI 2 = ((2 : Int32)) from rfl)]
    exact ah2 h hk (by omega)
  · rw [if_neg (show ¬ nI 3 = 0 by decide), if_neg (show ¬ nI 3 = ((1 : Int32)) by decide), if_pos (show nI 3 = ((3 : Int32)) from rfl)]
    by_cases c0 : rM (B 247) = 0
    · rw [if_pos (show lm 252 253 254 M (fun _ => 0) (fun _ => 0) (fun _ => 0) 246 1 = 0 by rw [lm_o (by decide) (by decide) (by decide), m1, c0]; rfl)]
      refine ahEnd h (show k ≤ k + 4 by omega) (relL h) ?_ (fun e h1 h2 => lm_o (by omega) (by omega) (by omega))
      rw [lawB_o (by decide)]
    · rw [if_neg (show ¬ lm 252 253 254 M (fun _ => 0) (fun _ => 0) (fun _ => 0) 246 1 = 0 by rw [lm_o (by decide) (by decide) (by decide), m1]; exact nI_ne (by omega) (by omega)), if_neg (show ¬ nI 3 = ((2 : Int32)) by decide)]
      exact ah3 h hk (by omega) x1 (by omega)
end AHEAD2
