/-! layTrack: the signs, one by one -/
theorem trk_down {cd : Nat → Int32} : ∀ (j i : Nat), trk cd (i + j) ≠ none → trk cd i ≠ none
  | 0, _, h => h
  | j + 1, i, h => trk_down j i (fun q => h (by rw [← Nat.add_assoc, trk, q]; rfl))
theorem trk_ok {cd : Nat → Int32} : ∀ (i p b : Nat), trk cd i = some (p, b) → tOk p b
  | 0, p, b, h => by cases h; exact ⟨Or.inl rfl, fun _ => by decide, fun q => absurd rfl q⟩
  | i + 1, p, b, h => by
    rw [trk] at h
    cases hk : trk cd i with
    | none => rw [hk] at h; cases h
    | some q => rw [hk] at h; exact tk_ok (trk_ok i q.1 q.2 hk) h
def LI (G : mM) (w : mR) (b : Nat) : Prop := G 0 3 = nI b ∧ w 72 = nI b ∧ ∀ s, s < b → G (4 + s) 0 = w (3 * s) ∧ G (4 + s) 2 = 0 ∧ w (3 * s + 2) = 0 ∧ (0 ≤ (w (3 * s)).toInt ∧ (w (3 * s)).toInt ≤ 9) ∧ ((G (4 + s) 1 = 2 ∧ w (3 * s + 1) = 1) ∨ (G (4 + s) 1 = 1 ∧ w (3 * s + 1) = if s = 0 then 1 else 0))
def FrC (G0 G : mM) : Prop := (∀ d, d ≠ 0 → (d < 4 ∨ 16 ≤ d) → G d = G0 d) ∧ (∀ j, j ≠ 3 → G 0 j = G0 0 j) ∧ ∀ d, 4 ≤ d → d < 16 → G d 5 = G0 d 5
theorem FrC.rf {G : mM} : FrC G G := ⟨fun _ _ _ => rfl, fun _ _ => rfl, fun _ _ _ => rfl⟩
theorem FrC.tr {G0 G1 G2 : mM} (h : FrC G0 G1) (h2 : FrC G1 G2) : FrC G0 G2 := ⟨fun d a b => (h2.1 d a b).trans (h.1 d a b), fun j a => (h2.2.1 j a).trans (h.2.1 j a), fun d a b => (h2.2.2 d a b).trans (h.2.2 d a b)⟩
theorem FrC.seg (G : mM) {d k : Nat} {v : Int32} (hd : 4 ≤ d ∧ d < 16) (hk : k ≠ 5) : FrC G (up2 G d k v) := ⟨fun e _ he => up2_other (by omega), fun j _ => up2_ne (Or.inl (by omega)), fun e _ _ => up2_ne (Or.inr (Ne.symm hk))⟩
theorem FrC.cnt (G : mM) {v : Int32} : FrC G (up2 G 0 3 v) := ⟨fun e he _ => up2_other he, fun j hj => up2_ne (Or.inr hj), fun e he _ => up2_ne (Or.inr (by decide))⟩
def FrM (w0 w : mR) : Prop := ∀ j, 36 ≤ j → j ≠ 72 → w j = w0 j
theorem putSeg (H : mM) (w : mR) {s : Nat} (hs : s < 12) (v f : Int32) : x6_putSegment (nI s) v f (sr H w) = some (sr H (upd (upd (upd w (3 * s) v) (3 * s + 1) (if f = 0 then 0 else 1)) (3 * s + 2) 0)) := by
  have q0 := ix (b := 0) (a := 3) (t := s) (k := 0) (N := 82) (ixn 0 3 s 0) (by omega) (by decide)
  have q1 := ix (b := 0) (a := 3) (t := s) (k := 1) (N := 82) (ixn 0 3 s 1) (by omega) (by decide)
  have q2 := ix (b := 0) (a := 3) (t := s) (k := 2) (N := 82) (ixn 0 3 s 2) (by omega) (by decide)
  rw [show 0 + 3 * s + 0 = 3 * s by omega] at q0
  rw [show 0 + 3 * s + 1 = 3 * s + 1 by omega] at q1
  rw [show 0 + 3 * s + 2 = 3 * s + 2 by omega] at q2
  have c0 : ((0 : Int32) + (3 : Int32) * nI s + (0 : Int32)).toNatClampNeg = 3 * s := q0.2
  have c1 : ((0 : Int32) + (3 : Int32) * nI s + (1 : Int32)).toNatClampNeg = 3 * s + 1 := q1.2
  have c2 : ((0 : Int32) + (3 : Int32) * nI s + (2 : Int32)).toNatClampNeg = 3 * s + 2 := q2.2
  unfold x6_putSegment
  rw [mCk_t (show mIn ((0 : Int32) + (3 : Int32) * nI s + (0 : Int32)) 82 from q0.1), mNm_e]
  by_cases e : f = 0
  · rw [if_pos e, if_pos e, mCk_t (show mIn ((0 : Int32) + (3 : Int32) * nI s + (1 : Int32)) 82 from q1.1), mNm_e, mCk_t (show mIn ((0 : Int32) + (3 : Int32) * nI s + (2 : Int32)) 82 from q2.1), mNm_e, c0, c1, c2, sr_up, sr_up, sr_up]
  · rw [if_neg e, if_neg e, mCk_t (show mIn ((0 : Int32) + (3 : Int32) * nI s + (1 : Int32)) 82 from q1.1), mNm_e, mCk_t (show mIn ((0 : Int32) + (3 : Int32) * nI s + (2 : Int32)) 82 from q2.1), mNm_e, c0, c1, c2, sr_up, sr_up, sr_up]
theorem flagPut (H : mM) (w : mR) {b : Nat} (hb : 1 ≤ b ∧ b ≤ 12) (hw : w 72 = nI b) : mIn ((0 : Int32) + (3 : Int32) * (sr H w 247 72 - (1 : Int32)) + (1 : Int32)) 82 ∧ ((0 : Int32) + (3 : Int32) * (sr H w 247 72 - (1 : Int32)) + (1 : Int32)).toNatClampNeg = 3 * (b - 1) + 1 := by
  have q1 := ix (b := 0) (a := 3) (t := b - 1) (k := 1) (N := 82) (ixn 0 3 (b - 1) 1) (by omega) (by decide)
  rw [show 0 + 3 * (b - 1) + 1 = 3 * (b - 1) + 1 by omega] at q1
  rw [sr_247, hw, show nI b - (1 : Int32) = nI (b - 1) from pk_sub (a := b) (b := 1) hb.1]
  exact q1
theorem layB {cd : Nat → Int32} {len : Nat} (hlen : len ≤ 40) (hT : trk cd len ≠ none) {G0 H : mM} {w0 : mR} (hA : G0 241 1 = nI len) (hcd : ∀ i, i < len → G0 242 i = cd i) (h6 : H 246 6 = nI len) (hB : ∀ i, i < len → H 251 i = cd i) : ∀ (k i n m p b : Nat) (G : mM) (w : mR), i + k = len → k < n → k < m → trk cd i = some (p, b) → LI G w b → FrC G0 G → FrM w0 w →
    ∃ G' w' p' b', trk cd len = some (p', b') ∧ x1_layOnto_L6 0 n (nI i) G = some G' ∧ x6_layTrack_L47 m (nI i) (sr H w) = some (sr H w') ∧ LI G' w' b' ∧ FrC G0 G' ∧ FrM w0 w' := by
  intro k
  induction k with
  | zero =>
    intro i n m p b G w hi hn hm ht hL hF hM
    obtain ⟨n, rfl⟩ : ∃ q, n = q + 1 := ⟨n - 1, by omega⟩
    obtain ⟨m, rfl⟩ : ∃ q, m = q + 1 := ⟨m - 1, by omega⟩
    have e : i = len := by omega
    subst e
    refine ⟨G, w, p, b, ht, ?_, ?_, hL, hF, hM⟩
    · rw [x1_layOnto_L6, hF.1 241 (by decide) (by decide), hA, if_pos ((jA_nle (by omega) (by omega)).mpr (Nat.le_refl _))]
    · rw [x6_layTrack_L47, sr_o (show (246 : Nat) ≠ 247 by decide), h6, if_pos ((jA_nle (by omega) (by omega)).mpr (Nat.le_refl _))]
  | succ k ih =>
    intro i n m p b G w hi hn hm ht hL hF hM
    obtain ⟨n, rfl⟩ : ∃ q, n = q + 1 := ⟨n - 1, by omega⟩
    obtain ⟨m, rfl⟩ : ∃ q, m = q + 1 := ⟨m - 1, by omega⟩
    have hok := trk_ok i p b ht
    have hnx : trk cd (i + 1) ≠ none := trk_down k (i + 1) (by rw [show i + 1 + k = len by omega]; exact hT)
    obtain ⟨pb, hpb⟩ : ∃ pb, trk cd (i + 1) = some pb := by
      cases q : trk cd (i + 1) with
      | none => exact absurd q hnx
      | some pb => exact ⟨pb, rfl⟩
    obtain ⟨p', b'⟩ := pb
    have hk : tk p b (cd i) = some (p', b') := by rw [trk, ht] at hpb; exact hpb
    have hle : ¬ nI len ≤ nI i := fun q => by have := (jA_nle (by omega) (by omega)).mp q; omega
    have hcode : x1_codeAt (nI i) G = some (cd i) := by
      unfold x1_codeAt
      rw [if_neg (nI_pos (by omega)), if_neg (show ¬ (40 : Int32) ≤ nI i from fun q => by have := (jA_nle (a := 40) (by decide) (by omega)).mp q; omega), mCk_t (jA_in (by omega) (by decide)), jA_clamp (by omega), hF.1 242 (by decide) (by decide), hcd i (by omega)]
    have e48 := lc (cd i) 48 (k := 48) rfl
    have e57 := lc (cd i) 57 (k := 57) rfl
    obtain ⟨hp0, hp1, hp2⟩ := hok
    obtain ⟨L1, L2, L3⟩ := hL
    have hC : x1_layOnto_L6 0 (n + 1) (nI i) G = (x1_isDigit (cd i) G).bind fun q_4 => if q_4 = 0 then (if cd i = (112 : Int32) then (x3_widenLatestSegment 0 G).bind fun q_8 => mNm (nI i + (1 : Int32)) fun v_9 => x1_layOnto_L6 0 n v_9 q_8 else mNm (nI i + (1 : Int32)) fun v_7 => x1_layOnto_L6 0 n v_7 G) else (x3_appendSegment 0 (cd i - (48 : Int32)) G).bind fun q_10 => mNm (nI i + (1 : Int32)) fun v_11 => x1_layOnto_L6 0 n v_11 q_10 := by
      rw [x1_layOnto_L6, hF.1 241 (by decide) (by decide), hA, if_neg hle, hcode, bs]
    have hcdB : sr H w 251 (nI i).toNatClampNeg = cd i := by rw [sr_o (by decide), jA_clamp (by omega), hB i (by omega)]
    have hMd : x6_layTrack_L47 (m + 1) (nI i) (sr H w) = (x6_within (cd i) 48 57 (sr H w)).bind fun q_10 => if q_10 = 0 then (if cd i = (112 : Int32) then (mCk (mIn ((0 : Int32) + (3 : Int32) * (sr H w 247 72 - (1 : Int32)) + (1 : Int32)) 82) <| mNm (up2 (sr H w) 247 (((0 : Int32) + (3 : Int32) * (sr H w 247 72 - (1 : Int32)) + (1 : Int32)).toNatClampNeg) 1) fun G_16 => mNm (nI i + (1 : Int32)) fun v_17 => x6_layTrack_L47 m v_17 G_16) else mNm (nI i + (1 : Int32)) fun v_14 => x6_layTrack_L47 m v_14 (sr H w)) else (if sr H w 247 72 = 0 then (x6_putSegment (sr H w 247 72) (cd i - (48 : Int32)) 1 (sr H w)).bind fun q_23 => mNm (up2 q_23 247 72 ((q_23 247 72) + (1 : Int32))) fun G_24 => mNm (nI i + (1 : Int32)) fun v_25 => x6_layTrack_L47 m v_25 G_24 else (x6_putSegment (sr H w 247 72) (cd i - (48 : Int32)) 0 (sr H w)).bind fun q_20 => mNm (up2 q_20 247 72 ((q_20 247 72) + (1 : Int32))) fun G_21 => mNm (nI i + (1 : Int32)) fun v_22 => x6_layTrack_L47 m v_22 G_21) := by
      rw [x6_layTrack_L47, sr_o (show (246 : Nat) ≠ 247 by decide), h6, if_neg hle, mCk_t (jA_in (by omega) (by decide)), ← hcdB]
      simp only [mCk_t (jA_in (show i < 40 by omega) (by decide))]
    rw [hC, hMd, wn (cd i) 48 57 (l := 48) (h := 57) rfl rfl, bs, ite10]
    unfold x1_isDigit
    unfold tk at hk
    by_cases e0 : p = 0
    · rw [if_pos e0] at hk
      by_cases e1 : cd i < (48 : Int32)
      · rw [if_pos e1] at hk; cases hk
      · rw [if_neg e1] at hk
        by_cases e2 : (57 : Int32) < cd i
        · rw [if_pos e2] at hk; cases hk
        · rw [if_neg e2] at hk
          cases hk
          have e1' : ¬ (cd i).toInt < 48 := fun q => e1 (e48.1.mpr q)
          have e2' : ¬ (57 : Int) < (cd i).toInt := fun q => e2 (e57.2.1.mpr q)
          have hb := hp1 e0
          have hsoft : (cd i - (48 : Int32)).toInt = (cd i).toInt - 48 := by
            have : (48 : Int32).toInt = 48 := rfl
            rw [jA_sub (by omega) (by omega)]; omega
          rw [if_neg e1, if_neg e2, bs, if_neg one_ne, if_pos (show 48 ≤ (cd i).toInt ∧ (cd i).toInt ≤ 57 by omega)]
          unfold x3_appendSegment
          rw [mNm_e, up2_same, L1, jA_1, show nI (b + 1) - (1 : Int32) = nI b from pk_sub (a := b + 1) (b := 1) (by omega), sAn (m := b + 1) (up2_same _ _ _ _) (by omega) (by omega), bs, if_pos (by omega), mOs]
          unfold x2_layDown
          rw [mNm_e, mNm_e, mNm_e, bs, bs, mNm_e, jA_1, sr_247, L2, putSeg _ _ hb, putSeg _ _ hb, bs, bs, mNm_e, mNm_e, mNm_e, mNm_e, sr_247, sr_247, upd_n (by omega), upd_n (by omega), upd_n (by omega), L2, jA_1, sr_up, sr_up, upd_n (by omega), upd_n (by omega), upd_n (by omega), L2, jA_1]
          have key : ∀ f : Int32, f = (if b = 0 then 1 else 0) → ∃ G' w' p' b', trk cd len = some (p', b') ∧ x1_layOnto_L6 0 n (nI (i + 1)) (up2 (up2 (up2 (up2 G 0 3 (nI (b + 1))) (0 + 4 + b) 0 (cd i - (48 : Int32))) (0 + 4 + b) 1 1) (0 + 4 + b) 2 0) = some G' ∧ x6_layTrack_L47 m (nI (i + 1)) (sr H (upd (upd (upd (upd w (3 * b) (cd i - (48 : Int32))) (3 * b + 1) f) (3 * b + 2) 0) 72 (nI (b + 1)))) = some (sr H w') ∧ LI G' w' b' ∧ FrC G0 G' ∧ FrM w0 w' := fun f hf => by
            refine ih (i + 1) n m 1 (b + 1) _ _ (by omega) (by omega) (by omega) hpb ⟨?_, upd_s _ _ _, fun s hs => ?_⟩ ((((hF.tr (FrC.cnt _)).tr (FrC.seg _ (by omega) (by decide))).tr (FrC.seg _ (by omega) (by decide))).tr (FrC.seg _ (by omega) (by decide))) (fun j h1 h2 => by rw [upd_n h2, upd_n (by omega), upd_n (by omega), upd_n (by omega)]; exact hM j h1 h2)
            · rw [up2_ne (Or.inl (by omega)), up2_ne (Or.inl (by omega)), up2_ne (Or.inl (by omega)), up2_same]
            · by_cases e : s = b
              · subst e
                rw [show 0 + 4 + s = 4 + s by omega, up2_ne (Or.inr (by decide)), up2_ne (Or.inr (by decide)), up2_same, up2_same, up2_ne (Or.inr (by decide)), up2_same, upd_n (by omega), upd_n (by omega), upd_n (by omega), upd_s, upd_n (by omega), upd_s, upd_n (by omega), upd_n (by omega), upd_s]
                exact ⟨rfl, rfl, rfl, by omega, Or.inr ⟨rfl, hf⟩⟩
              · rw [up2_other (by omega), up2_other (by omega), up2_other (by omega), up2_other (by omega), upd_n (by omega), upd_n (by omega), upd_n (by omega), upd_n (by omega), upd_n (by omega), upd_n (by omega), upd_n (by omega), upd_n (by omega), upd_n (by omega), upd_n (by omega), upd_n (by omega), upd_n (by omega)]
                exact L3 s (by omega)
          by_cases eb : b = 0
          · rw [if_pos (show nI b = 0 by rw [eb]; rfl), if_neg one_ne]
            exact key 1 (by rw [if_pos eb])
          · rw [if_neg (nI_ne eb (by omega)), if_pos rfl]
            exact key 0 (by rw [if_neg eb])
    · rw [if_neg e0] at hk
      have hb := hp2 e0
      by_cases e1 : cd i = (44 : Int32)
      · rw [if_pos e1] at hk
        by_cases e2 : 12 ≤ b
        · rw [if_pos e2] at hk; cases hk
        · rw [if_neg e2] at hk
          cases hk
          rw [e1, if_pos (show (44 : Int32) < 48 by decide), bs, if_pos rfl, if_neg (show ¬ (44 : Int32) = 112 by decide), if_neg (show ¬ (48 ≤ (44 : Int32).toInt ∧ (44 : Int32).toInt ≤ 57) by decide), if_neg (show ¬ (44 : Int32) = 112 by decide), mNm_e, mNm_e, jA_1]
          exact ih (i + 1) n m 0 b G w (by omega) (by omega) (by omega) hpb ⟨L1, L2, L3⟩ hF hM
      · rw [if_neg e1] at hk
        by_cases e2 : cd i = (112 : Int32)
        · rw [if_pos e2] at hk
          by_cases e3 : p = 1
          · rw [if_pos e3] at hk
            cases hk
            have fp := flagPut H w hb L2
            rw [e2, if_neg (show ¬ (112 : Int32) < 48 by decide), if_pos (show (57 : Int32) < 112 by decide), bs, if_pos rfl, if_pos rfl, if_neg (show ¬ (48 ≤ (112 : Int32).toInt ∧ (112 : Int32).toInt ≤ 57) by decide), if_pos rfl, mCk_t fp.1, mNm_e, fp.2, sr_up]
            unfold x3_widenLatestSegment
            rw [L1, show nI b - (1 : Int32) = nI (b - 1) from pk_sub (a := b) (b := 1) hb.1, sAn L1 hb.2 (by omega), bs, if_pos (by omega), mOs, mNm_e, bs, mNm_e, mNm_e, jA_1]
            refine ih (i + 1) n m 2 b _ _ (by omega) (by omega) (by omega) hpb ⟨by rw [up2_ne (Or.inl (by omega))]; exact L1, by rw [upd_n (by omega)]; exact L2, fun s hs => ?_⟩ (hF.tr (FrC.seg _ (by omega) (by decide))) (fun j h1 h2 => by rw [upd_n (by omega)]; exact hM j h1 h2)
            obtain ⟨c1, c2, c3, c4, c5⟩ := L3 s hs
            by_cases e : s = b - 1
            · subst e
              rw [show 0 + 4 + (b - 1) = 4 + (b - 1) by omega, up2_ne (Or.inr (by decide)), up2_ne (Or.inr (by decide)), up2_same, upd_n (by omega), upd_n (by omega), upd_s]
              exact ⟨c1, c2, c3, c4, Or.inl ⟨rfl, rfl⟩⟩
            · rw [up2_other (by omega), upd_n (by omega), upd_n (by omega), upd_n (by omega)]
              exact ⟨c1, c2, c3, c4, c5⟩
          · rw [if_neg e3] at hk; cases hk
        · rw [if_neg e2] at hk; cases hk
