/-! the class's reason -/
theorem sumI_add (f g : Nat → Int32) : ∀ n, sumI (fun i => f i + g i) n = sumI f n + sumI g n
  | 0 => by simp [sumI]
  | n + 1 => by rw [sumI, sumI, sumI, sumI_add f g n]; ac_rfl
def is01 (f : Nat → Int32) (n : Nat) : Prop := ∀ i, i < n → f i = 0 ∨ f i = 1
theorem is01_bd {f : Nat → Int32} {n : Nat} (h : is01 f n) (hn : n ≤ 4) : 0 ≤ (sumI f n).toInt ∧ (sumI f n).toInt ≤ n := by
  have := sumI_bd (f := f) (B := 1) (n := n) (fun i hi => by rcases h i hi with e | e <;> rw [e] <;> decide) (by omega) (by decide)
  omega
theorem is01_mono {f : Nat → Int32} {n : Nat} (hn : n ≤ 4) (h : is01 f n) {a : Nat} (ha : a ≤ n) : (sumI f a).toInt ≤ (sumI f n).toInt := by
  induction n with
  | zero => obtain rfl : a = 0 := by omega
            exact Int.le_refl _
  | succ n ih =>
    rcases Nat.lt_or_ge n a with h1 | h1
    · obtain rfl : a = n + 1 := by omega
      exact Int.le_refl _
    · have i1 := ih (by omega) (fun i hi => h i (by omega)) h1
      have b := is01_bd (f := f) (n := n) (fun i hi => h i (by omega)) (by omega)
      have e : 0 ≤ (f n).toInt ∧ (f n).toInt ≤ 1 := by rcases h n (by omega) with e | e <;> rw [e] <;> decide
      rw [sumI, jA_add (by omega) (by omega)]
      omega
theorem is01_lt {f : Nat → Int32} {n : Nat} (hn : n ≤ 4) (h : is01 f n) {t : Nat} (ht : t < n) (h0 : f t = 0) : (sumI f n).toInt < n := by
  induction n with
  | zero => omega
  | succ n ih =>
    have b := is01_bd (f := f) (n := n) (fun i hi => h i (by omega)) (by omega)
    have e : 0 ≤ (f n).toInt ∧ (f n).toInt ≤ 1 := by rcases h n (by omega) with e | e <;> rw [e] <;> decide
    rw [sumI, jA_add (by omega) (by omega)]
    by_cases h1 : t = n
    · subst h1
      rw [h0, show (0 : Int32).toInt = 0 by decide]
      omega
    · have := ih (by omega) (fun i hi => h i (by omega)) (by omega)
      omega
theorem cBtw {p o f : Nat} (G : mM) (hp : p < 100) (ho : o < 100) (hf : f < 100) : x3_isBetween (nI p) (nI o) (nI f) G = some (if min p f < o ∧ o < max p f then 1 else 0) := by
  unfold x3_isBetween
  have e1 : nI o ≤ nI p ↔ o ≤ p := jA_nle (by omega) (by omega)
  have e2 : nI o ≤ nI f ↔ o ≤ f := jA_nle (by omega) (by omega)
  have e3 : nI p ≤ nI o ↔ p ≤ o := jA_nle (by omega) (by omega)
  have e4 : nI o < nI f ↔ o < f := jA_nlt (by omega) (by omega)
  simp only [e1, e2, e3, e4]
  repeat' split
  all_goals first
    | rfl
    | (exfalso; omega)
def dB (z : mR) (lo hi : Nat) (up : Int32) (t : Nat) : Int32 := if z (36 + 9 * t + 3) ≤ nI lo then 0 else if nI hi ≤ z (36 + 9 * t + 3) then 0 else if z (36 + 9 * t + 4) = up then 1 else 0
def dA (z : mR) (x : Int32) (t : Nat) : Int32 := if z (36 + 9 * t + 3) = x then 1 else 0
theorem dB_01 (z : mR) (lo hi : Nat) (up : Int32) (n : Nat) : is01 (dB z lo hi up) n := fun i _ => by
  unfold dB
  repeat' split
  all_goals first
    | exact Or.inl rfl
    | exact Or.inr rfl
theorem dA_01 (z : mR) (x : Int32) (n : Nat) : is01 (dA z x) n := fun i _ => by
  unfold dA
  split
  · exact Or.inr rfl
  · exact Or.inl rfl
theorem dB_in {z : mR} {lo hi : Nat} {up : Int32} {t o : Nat} (ho : o < 100) (hlo : lo < 100) (hhi : hi < 100) (e : z (36 + 9 * t + 3) = nI o) : dB z lo hi up t = if lo < o ∧ o < hi then (if z (36 + 9 * t + 4) = up then 1 else 0) else 0 := by
  unfold dB
  have e1 : nI o ≤ nI lo ↔ o ≤ lo := jA_nle (by omega) (by omega)
  have e2 : nI hi ≤ nI o ↔ hi ≤ o := jA_nle (by omega) (by omega)
  rw [e]
  simp only [e1, e2]
  by_cases h1 : o ≤ lo
  · rw [if_pos h1, if_neg (by omega)]
  · rw [if_neg h1]
    by_cases h2 : hi ≤ o
    · rw [if_pos h2, if_neg (by omega)]
    · rw [if_neg h2, if_pos (show lo < o ∧ o < hi by omega)]
theorem dA_in {z : mR} {f t o : Nat} (ho : o < 100) (hf : f < 100) (e : z (36 + 9 * t + 3) = nI o) : dA z (nI f) t = if o = f then 1 else 0 := by
  unfold dA
  rw [e]
  by_cases h : o = f
  · rw [if_pos h, if_pos (by rw [h])]
  · rw [if_neg h, if_neg (fun q => h ((jA_neq (by omega) (by omega)).mp q))]
/-- the loop over the others: 4 is told when one comes against, else how many there are -/
theorem cAhL {G : mM} {c : Nat} {z : mR} (h : Rs G c z) (hi : rInv z) {t0 f : Nat} (ht0 : t0 < rM z) (hf : f < rN z) :
    ∀ (k i n : Nat) (w : Int32), i + k = 4 → k < n → w = sumI (fun t => dB z (min (rPl z t0) f) (max (rPl z t0) f) (z (36 + 9 * t0 + 4)) t + dA z (nI f) t) (min i (rM z)) → sumI (dB z (min (rPl z t0) f) (max (rPl z t0) f) (1 - z (36 + 9 * t0 + 4))) (min i (rM z)) = 0 →
      x3_reasonAhead_L5 c (c + 16 + t0) (nI f) n w (nI i) G = some (if 0 < sumI (dB z (min (rPl z t0) f) (max (rPl z t0) f) (1 - z (36 + 9 * t0 + 4))) (rM z) then (1, 0) else (0, sumI (fun t => dB z (min (rPl z t0) f) (max (rPl z t0) f) (z (36 + 9 * t0 + 4)) t + dA z (nI f) t) (rM z))) := by
  have hn := hi.n
  have hm := hi.m
  obtain ⟨-, -, -, ⟨hp0, ep0⟩, hu0⟩ := hi.tr ht0
  intro k
  induction k with
  | zero =>
    intro i n w hik hkn hw hD
    obtain ⟨n, rfl⟩ : ∃ q, n = q + 1 := ⟨n - 1, by omega⟩
    obtain rfl : i = 4 := by omega
    rw [show min 4 (rM z) = rM z by omega] at hw hD
    rw [x3_reasonAhead_L5, if_pos (show (4 : Int32) ≤ nI 4 from (jA_nle (a := 4) (by decide) (by decide)).mpr (by decide)), hD, if_neg (by decide), ← hw]
  | succ k ih =>
    intro i n w hik hkn hw hD
    obtain ⟨n, rfl⟩ : ∃ q, n = q + 1 := ⟨n - 1, by omega⟩
    rw [x3_reasonAhead_L5, if_neg (show ¬ (4 : Int32) ≤ nI i from fun q => by have := (jA_nle (a := 4) (by decide) (by omega)).mp q; omega), tAn (h.m hi) hm (by omega), bs]
    by_cases him : i < rM z
    · obtain ⟨-, -, -, ⟨hpi, epi⟩, hui⟩ := hi.tr him
      have hw' := hw
      have hD' := hD
      rw [(mn_t him).2] at hw' hD'
      have sB := dB_in (z := z) (lo := min (rPl z t0) f) (hi := max (rPl z t0) f) (up := z (36 + 9 * t0 + 4)) (t := i) (o := rPl z i) (by omega) (by omega) (by omega) epi
      have sD := dB_in (z := z) (lo := min (rPl z t0) f) (hi := max (rPl z t0) f) (up := 1 - z (36 + 9 * t0 + 4)) (t := i) (o := rPl z i) (by omega) (by omega) (by omega) epi
      have sA := dA_in (z := z) (f := f) (t := i) (o := rPl z i) (by omega) (by omega) epi
      rw [if_pos him, mOs, h.tr ht0 (k := 3) (by decide), h.tr him (k := 3) (by decide), ep0, epi, cBtw G (by omega) (by omega) (by omega), bs]
      by_cases hb : min (rPl z t0) f < rPl z i ∧ rPl z i < max (rPl z t0) f
      · rw [if_pos hb] at sB sD ⊢
        have hfne : ¬ rPl z i = f := by omega
        rw [if_neg hfne] at sA
        rw [if_neg one_ne, h.tr him (k := 4) (by decide), h.tr ht0 (k := 4) (by decide)]
        by_cases hsame : z (36 + 9 * i + 4) = z (36 + 9 * t0 + 4)
        · rw [if_pos hsame] at sB ⊢
          have hne : ¬ z (36 + 9 * i + 4) = 1 - z (36 + 9 * t0 + 4) := by
            rw [hsame]
            rcases hu0 with e | e <;> rw [e] <;> decide
          rw [if_neg hne] at sD
          rw [mNm_e, mNm_e, jA_1]
          refine ih (i + 1) n _ (by omega) (by omega) ?_ ?_
          · rw [(mn_t him).1, (mn_t him).2, sumI, sB, sA, ← hw', Int32.add_zero]
          · rw [(mn_t him).1, (mn_t him).2, sumI, sD, hD', Int32.add_zero]
        · have hopp : z (36 + 9 * i + 4) = 1 - z (36 + 9 * t0 + 4) := by
            rcases hui with e | e <;> rcases hu0 with e' | e'
            · exact absurd (e.trans e'.symm) hsame
            · rw [e, e']; rfl
            · rw [e, e']; rfl
            · exact absurd (e.trans e'.symm) hsame
          rw [if_pos hopp] at sD
          rw [if_neg hsame]
          have hpos : 0 < sumI (dB z (min (rPl z t0) f) (max (rPl z t0) f) (1 - z (36 + 9 * t0 + 4))) (rM z) := by
            have h1 : sumI (dB z (min (rPl z t0) f) (max (rPl z t0) f) (1 - z (36 + 9 * t0 + 4))) (i + 1) = 1 := by rw [sumI, sD, hD']; rfl
            have h2 := is01_mono (f := dB z (min (rPl z t0) f) (max (rPl z t0) f) (1 - z (36 + 9 * t0 + 4))) (n := rM z) hm (dB_01 _ _ _ _ _) (a := i + 1) (by omega)
            rw [h1, show (1 : Int32).toInt = 1 by decide] at h2
            rw [jA_lt, show (0 : Int32).toInt = 0 by decide]
            omega
          rw [if_pos hpos]
      · rw [if_neg hb] at sB sD ⊢
        rw [if_pos (rfl : (0 : Int32) = 0)]
        by_cases hfe : rPl z i = f
        · rw [if_pos hfe] at sA
          rw [if_pos (show nI (rPl z i) = nI f by rw [hfe]), mNm_e, mNm_e, jA_1]
          refine ih (i + 1) n _ (by omega) (by omega) ?_ ?_
          · rw [(mn_t him).1, (mn_t him).2, sumI, sB, sA, ← hw', Int32.zero_add]
          · rw [(mn_t him).1, (mn_t him).2, sumI, sD, hD', Int32.add_zero]
        · rw [if_neg hfe] at sA
          rw [if_neg (show ¬ nI (rPl z i) = nI f from fun q => hfe ((jA_neq (by omega) (by omega)).mp q)), mNm_e, jA_1]
          refine ih (i + 1) n _ (by omega) (by omega) ?_ ?_
          · rw [(mn_t him).1, (mn_t him).2, sumI, sB, sA, ← hw', Int32.add_zero, Int32.add_zero]
          · rw [(mn_t him).1, (mn_t him).2, sumI, sD, hD', Int32.add_zero]
    · rw [if_neg him, mOn, mNm_e, jA_1]
      exact ih (i + 1) n w (by omega) (by omega) (by rw [mn_f him]; exact hw) (by rw [mn_f him]; exact hD)
theorem cAhead {G : mM} {c : Nat} {z : mR} (h : Rs G c z) (hi : rInv z) {t0 f : Nat} (ht0 : t0 < rM z) (hf : f < rN z) (hpf : rPl z t0 ≠ f) :
    x3_reasonAhead c (c + 16 + t0) (nI f) G = some (if rBtw z (min (rPl z t0) f) (max (rPl z t0) f) (1 - z (36 + 9 * t0 + 4)) ≤ 0 then (if rEnd z f then 0 else if rTrIn z (nI f) + rBtw z (min (rPl z t0) f) (max (rPl z t0) f) (z (36 + 9 * t0 + 4)) < rRoom z f then 0 else 5) else 4) := by
  have hn := hi.n
  have hm := hi.m
  obtain ⟨-, -, -, ⟨hp0, ep0⟩, hu0⟩ := hi.tr ht0
  have e0 : (0 : Int32).toInt = 0 := by decide
  have hL := cAhL h hi ht0 hf 4 0 mFu 0 rfl (by unfold mFu; decide) (by rw [Nat.zero_min]; rfl) (by rw [Nat.zero_min]; rfl)
  have eD : rBtw z (min (rPl z t0) f) (max (rPl z t0) f) (1 - z (36 + 9 * t0 + 4)) = sumI (dB z (min (rPl z t0) f) (max (rPl z t0) f) (1 - z (36 + 9 * t0 + 4))) (rM z) := rfl
  have eS : rTrIn z (nI f) + rBtw z (min (rPl z t0) f) (max (rPl z t0) f) (z (36 + 9 * t0 + 4)) = sumI (fun t => dB z (min (rPl z t0) f) (max (rPl z t0) f) (z (36 + 9 * t0 + 4)) t + dA z (nI f) t) (rM z) := by
    rw [sumI_add, Int32.add_comm]
    rfl
  unfold x3_reasonAhead
  rw [show x3_reasonAhead_L5 c (c + 16 + t0) (nI f) mFu 0 0 G = _ from hL, bs, eD, eS]
  by_cases hd : 0 < sumI (dB z (min (rPl z t0) f) (max (rPl z t0) f) (1 - z (36 + 9 * t0 + 4))) (rM z)
  · rw [if_pos hd, if_neg (show ¬ (1 : Nat) = 0 by decide), if_neg (fun q => by rw [jA_le] at q; rw [jA_lt] at hd; omega)]
  · rw [if_neg hd, if_pos (rfl : (0 : Nat) = 0), if_pos (by rw [jA_lt] at hd; rw [jA_le]; omega), sSeg h hi hf, bs, mOs, (h.seg hf).2.1]
    by_cases he : rEnd z f
    · have hr : rRoom z f = 4 := by unfold rRoom; rw [if_pos he]
      have h01 : is01 (fun t => dB z (min (rPl z t0) f) (max (rPl z t0) f) (z (36 + 9 * t0 + 4)) t + dA z (nI f) t) (rM z) := fun i him => by
        obtain ⟨-, -, -, ⟨hpi, epi⟩, hui⟩ := hi.tr him
        have sB := dB_in (z := z) (lo := min (rPl z t0) f) (hi := max (rPl z t0) f) (up := z (36 + 9 * t0 + 4)) (t := i) (o := rPl z i) (by omega) (by omega) (by omega) epi
        have sA := dA_in (z := z) (f := f) (t := i) (o := rPl z i) (by omega) (by omega) epi
        show dB z _ _ _ i + dA z _ i = 0 ∨ dB z _ _ _ i + dA z _ i = 1
        rw [sB, sA]
        by_cases hb : min (rPl z t0) f < rPl z i ∧ rPl z i < max (rPl z t0) f
        · rw [if_pos hb, if_neg (show ¬ rPl z i = f by omega)]
          split
          · exact Or.inr rfl
          · exact Or.inl rfl
        · rw [if_neg hb]
          split
          · exact Or.inr rfl
          · exact Or.inl rfl
      have hz : (fun t => dB z (min (rPl z t0) f) (max (rPl z t0) f) (z (36 + 9 * t0 + 4)) t + dA z (nI f) t) t0 = 0 := by
        have sB := dB_in (z := z) (lo := min (rPl z t0) f) (hi := max (rPl z t0) f) (up := z (36 + 9 * t0 + 4)) (t := t0) (o := rPl z t0) (by omega) (by omega) (by omega) ep0
        have sA := dA_in (z := z) (f := f) (t := t0) (o := rPl z t0) (by omega) (by omega) ep0
        show dB z _ _ _ t0 + dA z _ t0 = 0
        rw [sB, sA, if_neg (by omega), if_neg hpf]
        rfl
      have hlt := is01_lt hm h01 ht0 hz
      rw [if_pos he, hr]
      dsimp only
      rw [if_pos (by rw [jA_lt, show (4 : Int32).toInt = 4 by decide]; omega)]
    · rw [if_neg he]
      by_cases hlt : sumI (fun t => dB z (min (rPl z t0) f) (max (rPl z t0) f) (z (36 + 9 * t0 + 4)) t + dA z (nI f) t) (rM z) < rRoom z f
      · rw [if_pos hlt, if_pos hlt]
      · rw [if_neg hlt, if_neg hlt]
theorem cBey {G : mM} {c : Nat} {z : mR} (h : Rs G c z) (hi : rInv z) {t : Nat} (ht : t < rM z) : x3_placeBeyond c (c + 16 + t) G = some (if z (36 + 9 * t + 4) = 0 then nI (rPl z t) - 1 else nI (rPl z t + 1)) := by
  obtain ⟨-, -, -, ⟨hp, ep⟩, hu⟩ := hi.tr ht
  unfold x3_placeBeyond
  rw [h.tr ht (k := 4) (by decide), h.tr ht (k := 3) (by decide), ep, jA_1]
  by_cases h0 : z (36 + 9 * t + 4) = 0
  · rw [if_pos h0, if_pos h0]
  · rw [if_neg h0, if_neg h0]
theorem cToUn {G : mM} {c : Nat} {z : mR} (h : Rs G c z) (hi : rInv z) {t : Nat} (ht : t < rM z) : x3_isToUnload c (c + 16 + t) G = some (if z (36 + 9 * t + 4) = 1 ∧ rPl z t + 1 = rN z then 1 else 0) := by
  have hn := hi.n
  obtain ⟨-, -, -, ⟨hp, ep⟩, hu⟩ := hi.tr ht
  unfold x3_isToUnload
  rw [h.tr ht (k := 4) (by decide), h.tr ht (k := 3) (by decide), ep, h.n hi, show nI (rN z) - (1 : Int32) = nI (rN z - 1) from pk_sub (a := rN z) (b := 1) (by omega)]
  rcases hu with hu | hu
  · rw [if_pos hu, if_neg (fun q => by rw [hu] at q; exact absurd q.1 (by decide))]
  · rw [if_neg (by rw [hu]; decide)]
    by_cases h1 : rPl z t + 1 = rN z
    · rw [if_pos (show nI (rPl z t) = nI (rN z - 1) by rw [← h1]; rfl), if_pos ⟨hu, h1⟩]
    · rw [if_neg (show ¬ nI (rPl z t) = nI (rN z - 1) from fun q => h1 (by have := (jA_neq (by omega) (by omega)).mp q; omega)), if_neg (fun q => h1 q.2)]
theorem cToLo {G : mM} {c : Nat} {z : mR} (h : Rs G c z) (hi : rInv z) {t : Nat} (ht : t < rM z) : x3_isToLoad c (c + 16 + t) G = some (if z (36 + 9 * t + 4) = 0 ∧ rPl z t = 0 then 1 else 0) := by
  have hn := hi.n
  obtain ⟨-, -, -, ⟨hp, ep⟩, hu⟩ := hi.tr ht
  unfold x3_isToLoad
  rw [h.tr ht (k := 4) (by decide), h.tr ht (k := 3) (by decide), ep]
  by_cases h0 : z (36 + 9 * t + 4) = 0
  · rw [if_pos h0]
    by_cases h1 : rPl z t = 0
    · rw [if_pos (show nI (rPl z t) = (0 : Int32) by rw [h1]; rfl), if_pos ⟨h0, h1⟩]
    · rw [if_neg (show ¬ nI (rPl z t) = (0 : Int32) from fun q => h1 ((jA_neq (b := 0) (by omega) (by decide)).mp q)), if_neg (fun q => h1 q.2)]
  · rw [if_neg h0, if_neg (fun q => h0 q.1)]
/-- from the next segment on -/
theorem cTail {G : mM} {c : Nat} {z : mR} (h : Rs G c z) (hi : rInv z) {t q f : Nat} (ht : t < rM z) (hq : q < rN z) (hf : f < rN z) (hpf : rPl z t ≠ f) (hfar : (if z (36 + 9 * t + 4) = 0 then nI (rBe z (rPl z t)) else nI (rAb z (rPl z t))) = nI f) :
    (if G (c + 4 + q) 2 ≤ G (c + 3) 0 then (x3_trainsIn c (nI q) G).bind fun a1 =>
      if a1 < G (c + 4 + q) 1 then (x2_isPassingPlace (c + 4 + rPl z t) G).bind fun a2 =>
        if a2 = 0 then some (0 : Int32) else (x2_isPassingPlace (c + 4 + q) G).bind fun a3 =>
          if a3 = 0 then (if G (c + 16 + t) 4 = 0 then (x3_reasonAhead c (c + 16 + t) (G (c + 4 + rPl z t) 4) G).bind fun a4 => some a4 else (x3_reasonAhead c (c + 16 + t) (G (c + 4 + rPl z t) 3) G).bind fun a4 => some a4)
          else some 0
      else some 3
    else some 2) = some (rGoR z (rPl z t) q f (z (36 + 9 * t + 4))) := by
  have hn := hi.n
  obtain ⟨-, -, -, ⟨hp, ep⟩, hu⟩ := hi.tr ht
  unfold rGoR
  rw [(h.seg hq).2.2.1, h.set.1, (h.seg hq).2.1]
  by_cases h1 : z (3 * q + 2) ≤ z 75
  · rw [if_pos h1, if_pos h1, sTrIn h hi, bs]
    by_cases h2 : rTrIn z (nI q) < rRoom z q
    · rw [if_pos h2, if_pos h2, sPs h hi hp, bs]
      by_cases h3 : rPs z (rPl z t)
      · rw [if_pos h3, if_pos h3, if_neg one_ne, sPs h hi hq, bs]
        by_cases h4 : rPs z q
        · rw [if_pos h4, if_pos h4, if_neg one_ne]
        · rw [if_neg h4, if_neg h4, if_pos (rfl : (0 : Int32) = 0), h.tr ht (k := 4) (by decide), (h.seg hp).2.2.2.1, (h.seg hp).2.2.2.2]
          by_cases h5 : z (36 + 9 * t + 4) = 0
          · rw [if_pos h5] at hfar ⊢
            rw [hfar, cAhead h hi ht hf hpf, bs]
          · rw [if_neg h5] at hfar ⊢
            rw [hfar, cAhead h hi ht hf hpf, bs]
      · rw [if_neg h3, if_neg h3, if_pos rfl]
    · rw [if_neg h2, if_neg h2]
  · rw [if_neg h1, if_neg h1]
theorem cReason {G : mM} {c : Nat} {z : mR} (h : Rs G c z) (hi : rInv z) {t : Nat} (ht : t < rM z) : x3_reasonToWait c (c + 16 + t) G = some (rReason z t) := by
  have hn := hi.n
  have hm := hi.m
  obtain ⟨-, -, -, ⟨hp, ep⟩, hu⟩ := hi.tr ht
  unfold x3_reasonToWait
  rw [cToUn h hi ht, bs]
  rcases hu with hu | hu
  · have hr : rReason z t = if rPl z t = 0 then (if z (36 + 9 * t + 0) * z (36 + 9 * t + 1) ≤ z 79 then 0 else 1) else rGoR z (rPl z t) (rPl z t - 1) (rDn z (rPl z t - 1)) 0 := by
      unfold rReason
      rw [hu, if_neg (by decide)]
    rw [if_neg (show ¬ (z (36 + 9 * t + 4) = 1 ∧ rPl z t + 1 = rN z) from fun q => by rw [hu] at q; exact absurd q.1 (by decide)), if_pos (rfl : (0 : Int32) = 0), cToLo h hi ht, bs, hr]
    by_cases h0 : rPl z t = 0
    · rw [if_pos h0, if_pos (show z (36 + 9 * t + 4) = 0 ∧ rPl z t = 0 from ⟨hu, h0⟩), if_neg one_ne, x4_fullLoad, bs, h.tr ht (k := 0) (by decide), h.tr ht (k := 1) (by decide), h.1.2.2.1]
      by_cases h1 : z (36 + 9 * t + 0) * z (36 + 9 * t + 1) ≤ z 79
      · rw [if_pos h1, if_neg (fun q => by rw [jA_le] at h1; rw [jA_lt] at q; omega)]
      · rw [if_neg h1, if_pos (by rw [jA_le] at h1; rw [jA_lt]; omega)]
    · rw [if_neg h0, if_neg (show ¬ (z (36 + 9 * t + 4) = 0 ∧ rPl z t = 0) from fun q => h0 q.2), if_pos (rfl : (0 : Int32) = 0), cBey h hi ht, bs, if_pos hu, h.tr ht (k := 3) (by decide), ep, sSeg h hi hp, bs, mOs]
      obtain ⟨s, hs⟩ : ∃ s, rPl z t = s + 1 := ⟨rPl z t - 1, by omega⟩
      have h9 := rDn_in hi s
      have hT := cTail h hi ht (q := s) (f := rDn z s) (by omega) (by omega) (by omega) (by rw [if_pos hu]; unfold rBe; rw [if_pos (by omega), hs]; rfl)
      rw [show nI (rPl z t) - (1 : Int32) = nI s by rw [hs]; exact nI_pred s, sSeg h hi (show s < rN z by omega), bs, mOs, show rPl z t - 1 = s by omega]
      rw [hu] at hT
      exact hT
  · have hr : rReason z t = if rPl z t + 1 = rN z then 0 else rGoR z (rPl z t) (rPl z t + 1) (rUp z 12 (rPl z t + 1)) 1 := by
      unfold rReason
      rw [hu, if_pos rfl]
    rw [hr]
    by_cases h1 : rPl z t + 1 = rN z
    · rw [if_pos h1, if_pos (show z (36 + 9 * t + 4) = 1 ∧ rPl z t + 1 = rN z from ⟨hu, h1⟩), if_neg one_ne]
    · have h9 := rUp_in hi 12 (rPl z t + 1) (by omega) (by omega)
      have hT := cTail h hi ht (q := rPl z t + 1) (f := rUp z 12 (rPl z t + 1)) (by omega) (by omega) (by omega) (by rw [if_neg (by rw [hu]; decide)]; unfold rAb; rw [if_pos (by omega)])
      rw [if_neg h1, if_neg (show ¬ (z (36 + 9 * t + 4) = 1 ∧ rPl z t + 1 = rN z) from fun q => h1 q.2), if_pos (rfl : (0 : Int32) = 0), cToLo h hi ht, bs, if_neg (show ¬ (z (36 + 9 * t + 4) = 0 ∧ rPl z t = 0) from fun q => by rw [hu] at q; exact absurd q.1 (by decide)), if_pos (rfl : (0 : Int32) = 0), cBey h hi ht, bs, if_neg (show ¬ z (36 + 9 * t + 4) = 0 by rw [hu]; decide), h.tr ht (k := 3) (by decide), ep, sSeg h hi hp, bs, mOs, sSeg h hi (show rPl z t + 1 < rN z by omega), bs, mOs]
      rw [hu] at hT
      exact hT
