/-! THE LAW'S why -/
section LWHY
variable {a b c : Nat} {G : mM} {D S T z : mR}
theorem nle0 {n : Nat} (h : n < 2 ^ 31) : nI n ≤ 0 ↔ n = 0 := by
  have := jA_nle (a := n) (b := 0) h (by decide)
  exact ⟨fun q => by have := this.mp q; omega, fun q => this.mpr (by omega)⟩
theorem lUp (h3 : l3 a b c) (hL : LR D S T z) (hi : rInv z) : ∀ (k s n : Nat) (w : Int32), s < rN z → rN z - 1 - s ≤ k → k < n → xL_why_L165 a 10 b 24 c 40 1 1 n w (nI s) (lm a b c G D S T) = some (if sumN (fun i => cN z (s + i) 0 (rM z)) (rUp z k s - s) = 0 then (0, w + nI (sumN (fun i => cN z (s + i) 1 (rM z)) (rUp z k s - s)), nI (rUp z k s)) else (1, 0, 0))
  | 0, s, n, w, hs, hk, hn => by
    have hN := hi.n
    obtain ⟨n, rfl⟩ : ∃ q, n = q + 1 := ⟨n - 1, by omega⟩
    have e : s = rN z - 1 := by omega
    have e0 : rUp z 0 s = s := rfl
    rw [xL_why_L165, lPs h3 hL hi hs, bs, if_pos (show rPs z s by rw [e]; exact hi.last), if_neg one_ne, e0, Nat.sub_self, sumN, sumN, if_pos rfl, show w + nI 0 = w from Int32.add_zero w]
  | k + 1, s, n, w, hs, hk, hn => by
    have hN := hi.n
    obtain ⟨n, rfl⟩ : ∃ q, n = q + 1 := ⟨n - 1, by omega⟩
    rw [xL_why_L165, lPs h3 hL hi hs, bs]
    by_cases h : rPs z s
    · have e0 : rUp z (k + 1) s = s := by unfold rUp; rw [if_pos h]
      rw [if_pos h, if_neg one_ne, e0, Nat.sub_self, sumN, sumN, if_pos rfl, show w + nI 0 = w from Int32.add_zero w]
    · have h1 : s ≠ rN z - 1 := fun e => h (by rw [e]; exact hi.last)
      have e0 : rUp z (k + 1) s = rUp z k (s + 1) := by rw [rUp, if_neg h]
      have h9 := rUp_in hi k (s + 1) (by omega) (by omega)
      obtain ⟨t1, t2, -, -, t5⟩ := thF hi (o := s) (by omega)
      have eg : ∀ up, (fun i => cN z (s + (i + 1)) up (rM z)) = fun i => cN z (s + 1 + i) up (rM z) := fun up => by
        funext i
        rw [show s + (i + 1) = s + 1 + i by omega]
      rw [if_neg h, if_pos rfl, lThere h3 hL hi, bs, mNm_e, bs, mNm_e, if_neg one_ne, t1, t2, e0, show rUp z k (s + 1) - s = rUp z k (s + 1) - (s + 1) + 1 by omega, sumN_front, sumN_front, eg, eg]
      by_cases h0 : cN z s 0 (rM z) = 0
      · rw [if_pos ((nle0 (by omega)).mpr h0), if_neg one_ne, mNm_e, mNm_e, jA_1, lUp h3 hL hi k (s + 1) n _ (by omega) (by omega) (by omega), show s + 0 = s from rfl, h0, Int32.add_assoc, nI_add]
        simp only [Nat.zero_add]
      · rw [if_neg (fun q => h0 ((nle0 (by omega)).mp q)), show s + 0 = s from rfl, if_neg (by omega)]
theorem lDn (h3 : l3 a b c) (hL : LR D S T z) (hi : rInv z) : ∀ (s n : Nat) (w : Int32), s < rN z → s < n → xL_why_L165 a 10 b 24 c 40 0 (-1) n w (nI s) (lm a b c G D S T) = some (if sumN (fun i => cN z (rDn z s + 1 + i) 1 (rM z)) (s - rDn z s) = 0 then (0, w + nI (sumN (fun i => cN z (rDn z s + 1 + i) 0 (rM z)) (s - rDn z s)), nI (rDn z s)) else (1, 0, 0))
  | 0, n, w, hs, hn => by
    obtain ⟨n, rfl⟩ : ∃ q, n = q + 1 := ⟨n - 1, by omega⟩
    have e0 : rDn z 0 = 0 := rfl
    rw [xL_why_L165, lPs h3 hL hi hs, bs, if_pos hi.first, if_neg one_ne, e0, Nat.sub_self, sumN, sumN, if_pos rfl, show w + nI 0 = w from Int32.add_zero w]
  | s + 1, n, w, hs, hn => by
    have hN := hi.n
    obtain ⟨n, rfl⟩ : ∃ q, n = q + 1 := ⟨n - 1, by omega⟩
    rw [xL_why_L165, lPs h3 hL hi hs, bs]
    by_cases h : rPs z (s + 1)
    · have e0 : rDn z (s + 1) = s + 1 := by unfold rDn; rw [if_pos h]
      rw [if_pos h, if_neg one_ne, e0, Nat.sub_self, sumN, sumN, if_pos rfl, show w + nI 0 = w from Int32.add_zero w]
    · have e0 : rDn z (s + 1) = rDn z s := by rw [rDn, if_neg h]
      have h9 := rDn_in hi s
      obtain ⟨t1, t2, -, -, t5⟩ := thF hi (o := s + 1) (by omega)
      rw [if_neg h, if_pos rfl, lThere h3 hL hi, bs, mNm_e, bs, mNm_e, if_pos rfl, t1, t2, e0, show s + 1 - rDn z s = s - rDn z s + 1 by omega, sumN, sumN, show rDn z s + 1 + (s - rDn z s) = s + 1 by omega]
      by_cases h0 : cN z (s + 1) 1 (rM z) = 0
      · rw [if_pos ((nle0 (by omega)).mpr h0), if_pos rfl, mNm_e, mNm_e, pk_m1, lDn h3 hL hi s n _ (by omega) (by omega), h0, Int32.add_assoc, nI_add, Nat.add_comm (cN z (s + 1) 0 (rM z))]
        rfl
      · rw [if_neg (fun q => h0 ((nle0 (by omega)).mp q)), if_neg (by omega)]
/-- the loop, in the words of the row -/
theorem lUpB (h3 : l3 a b c) (hL : LR D S T z) (hi : rInv z) {p : Nat} (hp : p + 1 < rN z) : xL_why_L165 a 10 b 24 c 40 1 1 mFu 0 (nI (p + 1)) (lm a b c G D S T) = some (if rBtw z (min p (rUp z 12 (p + 1))) (max p (rUp z 12 (p + 1))) (1 - 1) ≤ 0 then (0, rBtw z (min p (rUp z 12 (p + 1))) (max p (rUp z 12 (p + 1))) 1, nI (rUp z 12 (p + 1))) else (1, 0, 0)) := by
  have hN := hi.n
  have h9 := rUp_in hi 12 (p + 1) (by omega) (by omega)
  rw [lUp h3 hL hi 12 (p + 1) mFu 0 hp (by omega) (by unfold mFu; omega), show min p (rUp z 12 (p + 1)) = p by omega, show max p (rUp z 12 (p + 1)) = rUp z 12 (p + 1) by omega]
  obtain ⟨f, hf⟩ : ∃ f, rUp z 12 (p + 1) = f := ⟨_, rfl⟩
  rw [hf] at h9 ⊢
  obtain ⟨a0, b0⟩ := rBtw_n hi (lo := p) (h := f) (by omega) (by omega) 0
  obtain ⟨a1, b1⟩ := rBtw_n hi (lo := p) (h := f) (by omega) (by omega) 1
  have e : ∀ up, bN z p f up (rM z) = sumN (fun i => cN z (p + 1 + i) up (rM z)) (f - (p + 1)) := fun up => by
    rw [← bN_cN, show p + 1 + (f - (p + 1)) = f by omega]
  rw [show (1 : Int32) - 1 = 0 by decide, a0, a1, e, e]
  rw [e] at b0 b1
  by_cases h : sumN (fun i => cN z (p + 1 + i) 0 (rM z)) (f - (p + 1)) = 0
  · rw [if_pos h, if_pos ((nle0 (by omega)).mpr h), Int32.zero_add]
  · rw [if_neg h, if_neg (fun q => h ((nle0 (by omega)).mp q))]
theorem lDnB (h3 : l3 a b c) (hL : LR D S T z) (hi : rInv z) {q : Nat} (hp : q + 1 < rN z) : xL_why_L165 a 10 b 24 c 40 0 (-1) mFu 0 (nI q) (lm a b c G D S T) = some (if rBtw z (min (q + 1) (rDn z q)) (max (q + 1) (rDn z q)) (1 - 0) ≤ 0 then (0, rBtw z (min (q + 1) (rDn z q)) (max (q + 1) (rDn z q)) 0, nI (rDn z q)) else (1, 0, 0)) := by
  have hN := hi.n
  have h9 := rDn_in hi q
  rw [lDn h3 hL hi q mFu 0 (by omega) (by unfold mFu; omega), show min (q + 1) (rDn z q) = rDn z q by omega, show max (q + 1) (rDn z q) = q + 1 by omega]
  obtain ⟨f, hf⟩ : ∃ f, rDn z q = f := ⟨_, rfl⟩
  rw [hf] at h9 ⊢
  obtain ⟨a0, b0⟩ := rBtw_n hi (lo := f) (h := q + 1) (by omega) (by omega) 0
  obtain ⟨a1, b1⟩ := rBtw_n hi (lo := f) (h := q + 1) (by omega) (by omega) 1
  have e : ∀ up, bN z f (q + 1) up (rM z) = sumN (fun i => cN z (f + 1 + i) up (rM z)) (q - f) := fun up => by
    rw [← bN_cN, show f + 1 + (q - f) = q + 1 by omega]
  rw [show (1 : Int32) - 0 = 1 by decide, a0, a1, e, e]
  rw [e] at b0 b1
  by_cases h : sumN (fun i => cN z (f + 1 + i) 1 (rM z)) (q - f) = 0
  · rw [if_pos h, if_pos ((nle0 (by omega)).mpr h), Int32.zero_add]
  · rw [if_neg h, if_neg (fun q => h ((nle0 (by omega)).mp q))]
theorem lTail (h3 : l3 a b c) (hL : LR D S T z) (hi : rInv z) {p q f : Nat} (up y5 y7 : Int32) (hp : p < rN z) (hq : q < rN z) (hf : f < rN z) (hPf : rPs z f) (hloop : xL_why_L165 a 10 b 24 c 40 y5 y7 mFu 0 (nI q) (lm a b c G D S T) = some (if rBtw z (min p f) (max p f) (1 - up) ≤ 0 then (0, rBtw z (min p f) (max p f) up, nI f) else (1, 0, 0))) :
    (mCk (mIn ((3 : Int32) * nI q + 2) 24) <| mCk (mIn (2 : Int32) 10) <|
      if (lm a b c G D S T b (((3 : Int32) * nI q + 2).toNatClampNeg)) ≤ (lm a b c G D S T a ((2 : Int32).toNatClampNeg)) then
        (xL_many (nI q) a 10 c 40 (lm a b c G D S T)).bind fun q_61 =>
        (xL_room (nI q) a 10 b 24 (lm a b c G D S T)).bind fun q_62 =>
        if q_61 < q_62 then
          (xL_passing (nI p) a 10 b 24 (lm a b c G D S T)).bind fun q_64 =>
          if q_64 = 0 then some (0 : Int32)
          else
            (xL_passing (nI q) a 10 b 24 (lm a b c G D S T)).bind fun q_66 =>
            if q_66 = 0 then
              (xL_why_L165 a 10 b 24 c 40 y5 y7 mFu 0 (nI q) (lm a b c G D S T)).bind fun q_68 =>
              if q_68.1 = 0 then
                if q_68.2.2 ≤ 0 then some (0 : Int32)
                else
                  mCk (mIn (0 : Int32) 10) <|
                  if ((lm a b c G D S T a ((0 : Int32).toNatClampNeg)) - 1) ≤ q_68.2.2 then some (0 : Int32)
                  else
                    (xL_many q_68.2.2 a 10 c 40 (lm a b c G D S T)).bind fun q_72 =>
                    if (q_72 + q_68.2.1) < 2 then some (0 : Int32) else some 5
              else some 4
            else some 0
        else some 3
      else some 2) = some (rGoR z p q f up) := by
  have hN := hi.n
  have h8 := hL.2.1
  have hsq := (hL.2.2.1 q hq).2.1
  unfold rGoR
  rw [mCk_t (sk2 (by omega)), mCk_t dk2, lm_b h3, lm_a, sc2 (by omega), dc2, hsq, hL.1.2.2.1]
  by_cases h1 : z (3 * q + 2) ≤ z 75
  · rw [if_pos h1, if_pos h1, lMany h3 hL hi (by omega), bs, lRoom h3 hL hi hq, bs]
    by_cases h2 : rTrIn z (nI q) < rRoom z q
    · rw [if_pos h2, if_pos h2, lPs h3 hL hi hp, bs]
      by_cases h3' : rPs z p
      · rw [if_pos h3', if_pos h3', if_neg one_ne, lPs h3 hL hi hq, bs]
        by_cases h4 : rPs z q
        · rw [if_pos h4, if_pos h4, if_neg one_ne]
        · rw [if_neg h4, if_neg h4, if_pos rfl, hloop, bs]
          by_cases h5 : rBtw z (min p f) (max p f) (1 - up) ≤ 0
          · rw [if_pos h5, if_pos h5, if_pos rfl]
            dsimp only
            by_cases h6 : f = 0
            · rw [if_pos ((nle0 (by omega)).mpr h6), if_pos (show rEnd z f from Or.inl h6)]
            · rw [if_neg (fun r => h6 ((nle0 (by omega)).mp r)), mCk_t dk0, dc0, hL.d0 hi, show nI (rN z) - (1 : Int32) = nI (rN z - 1) from pk_sub (b := 1) (by omega)]
              by_cases h7 : f + 1 = rN z
              · rw [if_pos ((jA_nle (by omega) (by omega)).mpr (by omega)), if_pos (show rEnd z f from Or.inr h7)]
              · have he : ¬ rEnd z f := fun r => by rcases r with r | r <;> omega
                have hr : rRoom z f = 2 := by unfold rRoom; rw [if_neg he, if_pos hPf]
                rw [if_neg (fun r => by have := (jA_nle (by omega) (by omega)).mp r; omega), if_neg he, lMany h3 hL hi (by omega), bs, hr]
                by_cases h9 : rTrIn z (nI f) + rBtw z (min p f) (max p f) up < 2
                · rw [if_pos h9, if_pos h9]
                · rw [if_neg h9, if_neg h9]
          · rw [if_neg h5, if_neg h5, if_neg (by decide)]
      · rw [if_neg h3', if_neg h3', if_pos rfl]
    · rw [if_neg h2, if_neg h2]
  · rw [if_neg h1, if_neg h1]
theorem lWhy (h3 : l3 a b c) (hL : LR D S T z) (hi : rInv z) {t : Nat} (ht : t < rM z) : xL_why (nI t) a 10 b 24 c 40 (lm a b c G D S T) = some (rReason z t) := by
  have hN := hi.n
  have hM := hi.m
  obtain ⟨-, -, -, ⟨hp, ep⟩, hu⟩ := hi.tr ht
  have t4 : T (10 * t + 4) = z (36 + 9 * t + 4) := hL.tr ht (by decide)
  have t3 : T (10 * t + 3) = nI (rPl z t) := (hL.tr ht (by decide)).trans ep
  have t0 : T (10 * t) = z (36 + 9 * t + 0) := hL.tr0 ht
  have t1 : T (10 * t + 1) = z (36 + 9 * t + 1) := hL.tr ht (by decide)
  unfold xL_why
  rw [mNm_e, mCk_t (tk4 (by omega)), lm_c h3, tc4 (by omega), t4]
  rcases hu with hu | hu
  · have hr : rReason z t = if rPl z t = 0 then (if z (36 + 9 * t + 0) * z (36 + 9 * t + 1) ≤ z 79 then 0 else 1) else rGoR z (rPl z t) (rPl z t - 1) (rDn z (rPl z t - 1)) 0 := by
      unfold rReason
      rw [hu, if_neg (by decide)]
    rw [hu, hr, if_neg (show ¬ (0 : Int32) = 1 by decide), mCk_t (tk3 (by omega)), mNm_e, tc3 (by omega), t3]
    by_cases h0 : rPl z t = 0
    · rw [if_pos h0, if_pos (show nI (rPl z t) = (0 : Int32) by rw [h0]; rfl), mCk_t dk6, mCk_t (tk0 (by omega)), mCk_t (tk1 (by omega)), tc0 (by omega), tc1 (by omega), t0, t1, lm_a, dc6, hL.1.2.2.2.2.2.2.1]
      by_cases h1 : z (36 + 9 * t + 0) * z (36 + 9 * t + 1) ≤ z 79
      · rw [if_pos h1, if_pos h1]
      · rw [if_neg h1, if_neg h1]
    · rw [if_neg h0, if_neg (show ¬ nI (rPl z t) = (0 : Int32) from fun q => h0 ((jA_neq (b := 0) (by omega) (by decide)).mp q)), mNm_e]
      obtain ⟨s, hs⟩ : ∃ s, rPl z t = s + 1 := ⟨rPl z t - 1, by omega⟩
      have h9 := rDn_in hi s
      rw [hs, pk_m1, show s + 1 - 1 = s from rfl]
      have := lTail (G := G) h3 hL hi (p := s + 1) (q := s) (f := rDn z s) 0 0 (-1) (by omega) (by omega) (by omega) h9.2 (lDnB h3 hL hi (by omega))
      exact this
  · have hr : rReason z t = if rPl z t + 1 = rN z then 0 else rGoR z (rPl z t) (rPl z t + 1) (rUp z 12 (rPl z t + 1)) 1 := by
      unfold rReason
      rw [hu, if_pos rfl]
    rw [hu, hr, if_pos (rfl : (1 : Int32) = 1), mCk_t (tk3 (by omega)), mNm_e, tc3 (by omega), t3, mCk_t dk0, lm_a, show D ((0 : Int32).toNatClampNeg) = nI (rN z) from hL.d0 hi, show nI (rN z) - (1 : Int32) = nI (rN z - 1) from pk_sub (a := rN z) (b := 1) (by omega)]
    by_cases h1 : rPl z t + 1 = rN z
    · rw [if_pos h1, if_pos (show nI (rPl z t) = nI (rN z - 1) by rw [← h1]; rfl)]
    · rw [if_neg h1, if_neg (show ¬ nI (rPl z t) = nI (rN z - 1) from fun q => h1 (by have := (jA_neq (by omega) (by omega)).mp q; omega)), mNm_e, jA_1]
      have h9 := rUp_in hi 12 (rPl z t + 1) (by omega) (by omega)
      have := lTail (G := G) h3 hL hi (p := rPl z t) (q := rPl z t + 1) (f := rUp z 12 (rPl z t + 1)) 1 1 1 (by omega) (by omega) (by omega) h9.2.2 (lUpB h3 hL hi (by omega))
      rw [lm_a, show D ((0 : Int32).toNatClampNeg) = nI (rN z) from hL.d0 hi, show nI (rN z) - (1 : Int32) = nI (rN z - 1) from pk_sub (a := rN z) (b := 1) (by omega)] at this
      exact this
end LWHY

