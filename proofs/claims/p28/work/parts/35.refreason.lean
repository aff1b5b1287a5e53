/-! the reference's reason, on rows -/
theorem rInv.last {z : mR} (h : rInv z) : rPs z (rN z - 1) := h.2.2.2.2.1.2
theorem rInv.first {z : mR} (h : rInv z) : rPs z 0 := h.2.2.2.2.1.1
theorem rUp_in {z : mR} (hi : rInv z) : ∀ k s, s < rN z → rN z - 1 - s ≤ k → s ≤ rUp z k s ∧ rUp z k s < rN z ∧ rPs z (rUp z k s)
  | 0, s, hs, hk => by
    have e : s = rN z - 1 := by omega
    refine ⟨Nat.le_refl _, hs, ?_⟩
    show rPs z s
    rw [e]
    exact hi.last
  | k + 1, s, hs, hk => by
    unfold rUp
    by_cases h : rPs z s
    · rw [if_pos h]
      exact ⟨Nat.le_refl _, hs, h⟩
    · rw [if_neg h]
      have h1 : s ≠ rN z - 1 := fun e => h (by rw [e]; exact hi.last)
      have := rUp_in hi k (s + 1) (by omega) (by omega)
      exact ⟨by omega, this.2⟩
theorem rDn_in {z : mR} (hi : rInv z) : ∀ s, rDn z s ≤ s ∧ rPs z (rDn z s)
  | 0 => ⟨Nat.le_refl _, hi.first⟩
  | s + 1 => by
    unfold rDn
    by_cases h : rPs z (s + 1)
    · rw [if_pos h]
      exact ⟨Nat.le_refl _, h⟩
    · rw [if_neg h]
      have := rDn_in hi s
      exact ⟨by omega, this.2⟩
theorem eUp (G : mM) {z : mR} (hi : rInv z) (a b : Int32) : ∀ k s n, s < rN z → rN z - 1 - s ≤ k → k < n → x6_reason_L136 a b 1 n (nI s) (sr G z) = some (nI (rUp z k s))
  | 0, s, n, hs, hk, hn => by
    have hN := hi.n
    obtain ⟨n, rfl⟩ : ∃ q, n = q + 1 := ⟨n - 1, by omega⟩
    have e : s = rN z - 1 := by omega
    rw [x6_reason_L136, ePs G z (by omega), bs, if_pos (show rPs z s by rw [e]; exact hi.last), if_neg one_ne]
    rfl
  | k + 1, s, n, hs, hk, hn => by
    have hN := hi.n
    obtain ⟨n, rfl⟩ : ∃ q, n = q + 1 := ⟨n - 1, by omega⟩
    rw [x6_reason_L136, ePs G z (by omega), bs]
    unfold rUp
    by_cases h : rPs z s
    · rw [if_pos h, if_pos h, if_neg one_ne]
    · have h1 : s ≠ rN z - 1 := fun e => h (by rw [e]; exact hi.last)
      rw [if_neg h, if_neg h, if_pos rfl, mNm_e, jA_1]
      exact eUp G hi a b k (s + 1) n (by omega) (by omega) (by omega)
theorem eDn (G : mM) {z : mR} (hi : rInv z) (a b : Int32) : ∀ s n, s < rN z → s < n → x6_reason_L136 a b (-1) n (nI s) (sr G z) = some (nI (rDn z s))
  | 0, n, hs, hn => by
    obtain ⟨n, rfl⟩ : ∃ q, n = q + 1 := ⟨n - 1, by omega⟩
    rw [x6_reason_L136, ePs G z (by omega), bs, if_pos hi.first, if_neg one_ne]
    rfl
  | s + 1, n, hs, hn => by
    have hN := hi.n
    obtain ⟨n, rfl⟩ : ∃ q, n = q + 1 := ⟨n - 1, by omega⟩
    rw [x6_reason_L136, ePs G z (by omega), bs]
    unfold rDn
    by_cases h : rPs z (s + 1)
    · rw [if_pos h, if_pos h, if_neg one_ne]
    · rw [if_neg h, if_neg h, if_pos rfl, mNm_e, pk_m1]
      exact eDn G hi a b s n (by omega) (by omega)
theorem eTail (G : mM) {z : mR} (hi : rInv z) {p q f : Nat} (up a b y : Int32) (hp : p < rN z) (hq : q < rN z) (hf : f < rN z) (hfar : x6_reason_L136 a b y mFu (nI q) (sr G z) = some (nI f)) :
    ((x6_seg (nI q) 2 (sr G z)).bind fun a1 => (x6_other 0 (sr G z)).bind fun a2 =>
      if a1 ≤ a2 then (x6_trainsIn (nI q) (sr G z)).bind fun a3 => (x6_room (nI q) (sr G z)).bind fun a4 =>
        if a3 < a4 then (x6_isPassing (nI p) (sr G z)).bind fun a5 =>
          if a5 = 0 then some (0 : Int32) else (x6_isPassing (nI q) (sr G z)).bind fun a6 =>
            if a6 = 0 then (x6_reason_L136 a b y mFu (nI q) (sr G z)).bind fun a7 => (x6_between (nI p) a7 (1 - up) (sr G z)).bind fun a8 =>
              if a8 ≤ 0 then (x6_isEnd a7 (sr G z)).bind fun a9 =>
                if a9 = 0 then (x6_trainsIn a7 (sr G z)).bind fun b1 => (x6_between (nI p) a7 up (sr G z)).bind fun b2 => (x6_room a7 (sr G z)).bind fun b3 =>
                  if b1 + b2 < b3 then (if (0 : Int32) = 0 then some 0 else some 5) else (if (1 : Int32) = 0 then some 0 else some 5)
                else (if (0 : Int32) = 0 then some 0 else some 5)
              else some 4
            else some 0
        else some 3
      else some 2) = some (rGoR z p q f up) := by
  have hN := hi.n
  unfold rGoR
  rw [sF2 G z (by omega), bs, oT0, bs]
  by_cases h1 : z (3 * q + 2) ≤ z 75
  · rw [if_pos h1, if_pos h1, eTrIn G hi, bs, eRoom G hi (by omega), bs]
    by_cases h2 : rTrIn z (nI q) < rRoom z q
    · rw [if_pos h2, if_pos h2, ePs G z (by omega), bs]
      by_cases h3 : rPs z p
      · rw [if_pos h3, if_pos h3, if_neg one_ne, ePs G z (by omega), bs]
        by_cases h4 : rPs z q
        · rw [if_pos h4, if_pos h4, if_neg one_ne]
        · rw [if_neg h4, if_neg h4, if_pos rfl, hfar, bs, eBtw G hi _ (by omega) (by omega), bs]
          by_cases h5 : rBtw z (min p f) (max p f) (1 - up) ≤ 0
          · rw [if_pos h5, if_pos h5, eEnd G hi (by omega), bs]
            by_cases h6 : rEnd z f
            · rw [if_pos h6, if_pos h6, if_neg one_ne, if_pos rfl]
            · rw [if_neg h6, if_neg h6, if_pos rfl, eTrIn G hi, bs, eBtw G hi _ (by omega) (by omega), bs, eRoom G hi (by omega), bs, if_pos rfl, if_neg one_ne]
              by_cases h7 : rTrIn z (nI f) + rBtw z (min p f) (max p f) up < rRoom z f
              · rw [if_pos h7, if_pos h7]
              · rw [if_neg h7, if_neg h7]
          · rw [if_neg h5, if_neg h5]
      · rw [if_neg h3, if_neg h3, if_pos rfl]
    · rw [if_neg h2, if_neg h2]
  · rw [if_neg h1, if_neg h1]
theorem eReason (G : mM) {z : mR} (hi : rInv z) {t : Nat} (ht : t < rM z) : x6_reason (nI t) (sr G z) = some (rReason z t) := by
  have hN := hi.n
  have hM := hi.m
  obtain ⟨-, -, -, ⟨hp, ep⟩, hu⟩ := hi.tr ht
  unfold x6_reason
  rw [oF3 G z (by omega), bs, oF4 G z (by omega), bs, sr_247, hi.zn, ep]
  rcases hu with hu | hu
  · have hr : rReason z t = if rPl z t = 0 then (if z (36 + 9 * t + 0) * z (36 + 9 * t + 1) ≤ z 79 then 0 else 1) else rGoR z (rPl z t) (rPl z t - 1) (rDn z (rPl z t - 1)) 0 := by
      unfold rReason
      rw [hu, if_neg (by decide)]
    rw [hu, hr, if_neg (show ¬ (0 : Int32) = 1 by decide), if_pos (rfl : (0 : Int32) = 0)]
    by_cases h0 : rPl z t = 0
    · rw [if_pos h0, if_pos (show nI (rPl z t) = (0 : Int32) by rw [h0]; rfl), oT4, bs, eWanted G z (by omega), bs]
      by_cases h1 : z (36 + 9 * t + 0) * z (36 + 9 * t + 1) ≤ z 79
      · rw [if_pos h1, if_pos h1]
      · rw [if_neg h1, if_neg h1]
    · rw [if_neg h0, if_neg (show ¬ nI (rPl z t) = (0 : Int32) from fun q => h0 ((jA_neq (b := 0) (by omega) (by decide)).mp q)), if_neg (show ¬ (0 : Int32) = 1 by decide), mNm_e]
      obtain ⟨s, hs⟩ : ∃ s, rPl z t = s + 1 := ⟨rPl z t - 1, by omega⟩
      rw [hs, pk_m1]
      have h9 := rDn_in hi s
      exact eTail G hi (p := s + 1) (q := s) (f := rDn z s) 0 _ _ _ (by omega) (by omega) (by omega) (eDn G hi _ _ s mFu (by omega) (by unfold mFu; omega))
  · have hr : rReason z t = if rPl z t + 1 = rN z then 0 else rGoR z (rPl z t) (rPl z t + 1) (rUp z 12 (rPl z t + 1)) 1 := by
      unfold rReason
      rw [hu, if_pos rfl]
    rw [hu, hr, if_pos (rfl : (1 : Int32) = 1), show nI (rN z) - (1 : Int32) = nI (rN z - 1) from pk_sub (a := rN z) (b := 1) (by omega)]
    by_cases h1 : rPl z t + 1 = rN z
    · rw [if_pos h1, if_pos (show nI (rPl z t) = nI (rN z - 1) by rw [← h1]; rfl)]
    · rw [if_neg h1, if_neg (show ¬ nI (rPl z t) = nI (rN z - 1) from fun q => h1 (by have := (jA_neq (by omega) (by omega)).mp q; omega)), if_neg one_ne, if_pos (rfl : (1 : Int32) = 1), mNm_e, jA_1]
      have h9 := rUp_in hi 12 (rPl z t + 1) (by omega) (by omega)
      exact eTail G hi (p := rPl z t) (q := rPl z t + 1) (f := rUp z 12 (rPl z t + 1)) 1 _ _ _ (by omega) (by omega) (by omega) (eUp G hi _ _ 12 (rPl z t + 1) mFu (by omega) (by omega) (by unfold mFu; omega))
