/-! the reference's tick, on rows -/
theorem sumI_bd {f : Nat → Int32} {B : Int} : ∀ {n : Nat}, (∀ i, i < n → 0 ≤ (f i).toInt ∧ (f i).toInt ≤ B) → (n : Int) * B < 2147483648 → 0 ≤ B → 0 ≤ (sumI f n).toInt ∧ (sumI f n).toInt ≤ (n : Int) * B
  | 0, _, _, _ => by simp [sumI]
  | n + 1, h, hB, h0 => by
    have e : ((n + 1 : Nat) : Int) * B = (n : Int) * B + B := by rw [Int.natCast_add, Int.add_mul]; simp
    have h1 := sumI_bd (fun i hi => h i (by omega)) (by omega) h0 (n := n)
    have h2 := h n (by omega)
    rw [sumI, jA_add (by omega) (by omega), e]
    omega
theorem rW_in {z : mR} (hi : rInv z) {t : Nat} (ht : t < rM z) : 6 ≤ (rW z t).toInt ∧ (rW z t).toInt ≤ 136 := by
  obtain ⟨⟨a1, a2⟩, -, ⟨b1, b2⟩, -⟩ := hi.tr ht
  unfold rW
  have e2 : (2 : Int32).toInt = 2 := by decide
  have e4 : (4 : Int32).toInt = 4 := by decide
  have h1 : ((2 : Int32) * z (36 + 9 * t + 0)).toInt = 2 * (z (36 + 9 * t + 0)).toInt := by rw [jA_mul (by rw [e2]; omega) (by rw [e2]; omega), e2]
  have h2 : ((4 : Int32) + 2 * z (36 + 9 * t + 0)).toInt = 4 + 2 * (z (36 + 9 * t + 0)).toInt := by rw [jA_add (by omega) (by omega), h1, e4]
  rw [jA_add (by omega) (by omega), h2]
  omega
theorem rWIns_in {z : mR} (hi : rInv z) (x : Int32) : 0 ≤ (rWIns z x).toInt ∧ (rWIns z x).toInt ≤ 544 := by
  have hm := hi.m
  have h := sumI_bd (f := fun t => if z (36 + 9 * t + 3) = x then rW z t else 0) (B := 136) (n := rM z) (fun i h => ?_) (by omega) (by decide)
  · unfold rWIns
    omega
  · have h2 := rW_in hi h
    show 0 ≤ (if z (36 + 9 * i + 3) = x then rW z i else 0).toInt ∧ (if z (36 + 9 * i + 3) = x then rW z i else 0).toInt ≤ 136
    by_cases e : z (36 + 9 * i + 3) = x
    · rw [if_pos e]; omega
    · rw [if_neg e]; decide
theorem div10 {x : Int32} (h : 0 ≤ x.toInt) : (x / 10).toInt = x.toInt / 10 := by
  have hr := jA_rng x
  obtain ⟨j, hj, e, -⟩ := jA_of (x := x) (n := 2147483648) h (by omega)
  rw [e, show nI j / (10 : Int32) = nI (j / 10) from pk_div (a := j) (d := 10) (by omega) (by decide) (by decide), jA_n (by omega), jA_n (by omega)]
  omega
theorem rDl_in {z : mR} (hi : rInv z) {s : Nat} (hs : s < rN z) : 0 ≤ (rWIns z (nI s) * z (3 * s) / 10).toInt ∧ (rWIns z (nI s) * z (3 * s) / 10).toInt ≤ 490 := by
  have h1 := rWIns_in hi (nI s)
  obtain ⟨-, ⟨h2, h3⟩, -⟩ := hi.seg hs
  have p1 : 0 ≤ (rWIns z (nI s)).toInt * (z (3 * s)).toInt := Int.mul_nonneg h1.1 h2
  have p2 : (rWIns z (nI s)).toInt * (z (3 * s)).toInt ≤ 544 * 9 := Int.mul_le_mul h1.2 h3 h2 (by decide)
  have e := jA_mul (x := rWIns z (nI s)) (y := z (3 * s)) (by omega) (by omega)
  rw [div10 (by omega), e]
  omega
theorem rSk_in {z : mR} (hi : rInv z) {s : Nat} (hs : s < rN z) : 0 ≤ (rSk z s).toInt ∧ (rSk z s).toInt ≤ 999 := by
  obtain ⟨-, -, h4, h5⟩ := hi.seg hs
  obtain ⟨-, ⟨h6, h7⟩, -⟩ := hi.set
  have hd := rDl_in hi hs
  have e0 : (0 : Int32).toInt = 0 := by decide
  have e9 : (999 : Int32).toInt = 999 := by decide
  unfold rSk
  by_cases h : rTrIn z (nI s) = 0
  · rw [if_pos h]
    have e := jA_sub (x := z (3 * s + 2)) (y := z 76) (by omega) (by omega)
    by_cases h2 : z (3 * s + 2) - z 76 < 0
    · rw [if_pos h2]; decide
    · rw [if_neg h2]
      rw [jA_lt] at h2
      omega
  · rw [if_neg h]
    have e := jA_add (x := z (3 * s + 2)) (y := rWIns z (nI s) * z (3 * s) / 10) (by omega) (by omega)
    by_cases h2 : 999 < z (3 * s + 2) + rWIns z (nI s) * z (3 * s) / 10
    · rw [if_pos h2]; decide
    · rw [if_neg h2]
      rw [jA_lt] at h2
      omega
theorem rSinkN_ge {z : mR} {n k : Nat} (h : 3 * n ≤ k ∨ k % 3 ≠ 2) : rSinkN z n k = z k := by
  unfold rSinkN
  rw [if_neg (by omega)]
theorem rSinkN_lt {z : mR} {n s : Nat} (h : s < n) : rSinkN z n (3 * s + 2) = rSk z s := by
  unfold rSinkN
  rw [if_pos (by omega), show (3 * s + 2) / 3 = s by omega]
theorem rSinkN_succ (z : mR) (n : Nat) : upd (rSinkN z n) (3 * n + 2) (rSk z n) = rSinkN z (n + 1) := by
  funext k
  by_cases h : k = 3 * n + 2
  · rw [h, upd_s, rSinkN_lt (Nat.lt_succ_self n)]
  · rw [upd_n h]
    unfold rSinkN
    by_cases h2 : k < 3 * n ∧ k % 3 = 2
    · rw [if_pos h2, if_pos (by omega)]
    · rw [if_neg h2, if_neg (by omega)]
theorem rSinkN_N {z : mR} {n : Nat} (h : n ≤ 12) : rN (rSinkN z n) = rN z ∧ rM (rSinkN z n) = rM z := by
  unfold rN rM
  rw [rSinkN_ge (by omega), rSinkN_ge (by omega)]
  exact ⟨rfl, rfl⟩
theorem rSinkN_inv {z : mR} (hi : rInv z) {n : Nat} (hn : n ≤ rN z) : rInv (rSinkN z n) := by
  have h12 := hi.n
  have hm := hi.m
  obtain ⟨hN, hM⟩ := rSinkN_N (z := z) (n := n) (by omega)
  refine ⟨by rw [hN, hM]; exact hi.1, by rw [hN, rSinkN_ge (by omega)]; exact hi.zn, by rw [hM, rSinkN_ge (by omega)]; exact hi.zm, by rw [rSinkN_ge (by omega), rSinkN_ge (by omega), rSinkN_ge (by omega)]; exact hi.set, ⟨by rw [rSinkN_ge (by omega)]; exact hi.first, by rw [hN, rSinkN_ge (by omega)]; exact hi.last⟩, fun s hs => ?_, fun t ht => ?_⟩
  · rw [hN] at hs
    obtain ⟨a, b, c⟩ := hi.seg hs
    rw [rSinkN_ge (k := 3 * s + 1) (by omega), rSinkN_ge (k := 3 * s) (by omega)]
    refine ⟨a, b, ?_⟩
    by_cases h : s < n
    · rw [rSinkN_lt h]; exact rSk_in hi hs
    · rw [rSinkN_ge (by omega)]; exact c
  · rw [hM] at ht
    unfold rPl
    rw [hN, rSinkN_ge (by omega), rSinkN_ge (by omega), rSinkN_ge (by omega), rSinkN_ge (by omega), rSinkN_ge (by omega)]
    exact hi.tr ht
theorem rSinkN_tr {z : mR} {n : Nat} (h : n ≤ 12) (x : Int32) : rTrIn (rSinkN z n) x = rTrIn z x := by
  unfold rTrIn
  rw [(rSinkN_N h).2]
  exact sumI_cong (fun i _ => by rw [rSinkN_ge (by omega)])
theorem rSinkN_w {z : mR} {n : Nat} (h : n ≤ 12) (x : Int32) : rWIns (rSinkN z n) x = rWIns z x := by
  unfold rWIns rW
  rw [(rSinkN_N h).2]
  exact sumI_cong (fun i _ => by rw [rSinkN_ge (by omega), rSinkN_ge (by omega), rSinkN_ge (by omega)])
theorem eSinkPut (G : mM) (w : mR) {s : Nat} (hs : s < 27) (v : Int32) (f : mM → Option mM) : (mCk (mIn ((0 : Int32) + (3 : Int32) * nI s + (2 : Int32)) 82) <| mNm (up2 (sr G w) 247 (((0 : Int32) + (3 : Int32) * nI s + (2 : Int32)).toNatClampNeg) v) f) = f (sr G (upd w (3 * s + 2) v)) := by
  have q := ix (b := 0) (a := 3) (t := s) (k := 2) (N := 82) (ixn 0 3 s 2) (by omega) (by decide)
  rw [mCk_t (show mIn ((0 : Int32) + (3 : Int32) * nI s + 2) 82 from q.1), mNm_e, sr_up]
  exact congrArg (fun i => f (sr G (upd w i v))) (q.2.trans (by omega))
theorem eSink (G : mM) {z : mR} (hi : rInv z) : x6_sink (sr G z) = some (sr G (rSink z)) := by
  have h12 := hi.n
  have e0 : (0 : Int32).toInt = 0 := by decide
  have e9 : (999 : Int32).toInt = 999 := by decide
  have h := lpV (fun n a i => x6_sink_L2 n i a) id (fun i => sr G (rSinkN z i)) (rN z) (by omega) (fun n i hn => ?_) (fun n => ?_)
  · unfold x6_sink
    have hz : rSinkN z 0 = z := by funext k; exact rSinkN_ge (by omega)
    rw [hz] at h
    rw [show x6_sink_L2 mFu 0 (sr G z) = some (sr G (rSinkN z (rN z))) from h, bs]
    rfl
  · show x6_sink_L2 (n + 1) (nI i) (sr G (rSinkN z i)) = x6_sink_L2 n (nI (i + 1)) (sr G (rSinkN z (i + 1)))
    have hi' := rSinkN_inv hi (n := i) (by omega)
    obtain ⟨-, -, h4, h5⟩ := hi.seg hn
    obtain ⟨-, ⟨h6, h7⟩, -⟩ := hi.set
    have hd := rDl_in hi hn
    rw [x6_sink_L2, sr_247, rSinkN_ge (k := 72) (by omega), hi.zn, if_neg (fun q => by have := (jA_nle (by omega) (by omega)).mp q; omega), sF2 G _ (by omega), bs, eTrIn G hi', bs, rSinkN_tr (by omega), rSinkN_ge (k := 3 * i + 2) (by omega), ← rSinkN_succ]
    by_cases ht : rTrIn z (nI i) = 0
    · have hsk : rSk z i = if z (3 * i + 2) - z 76 < 0 then 0 else z (3 * i + 2) - z 76 := by unfold rSk; rw [if_pos ht]
      have e := jA_sub (x := z (3 * i + 2)) (y := z 76) (by omega) (by omega)
      rw [if_pos ht, oT1, bs, mNm_e, mNm_e, rSinkN_ge (k := 76) (by omega), ← Int32.sub_eq_add_neg]
      by_cases h2 : z (3 * i + 2) - z 76 < 0
      · rw [if_neg (fun q => by rw [jA_le] at q; rw [jA_lt] at h2; omega), eSinkPut G _ (by omega), mNm_e, jA_1, hsk, if_pos h2]
      · rw [if_pos (by rw [jA_le]; rw [jA_lt] at h2; omega), if_pos (by rw [jA_le]; omega), eSinkPut G _ (by omega), mNm_e, jA_1, hsk, if_neg h2]
    · have hsk : rSk z i = if 999 < z (3 * i + 2) + rWIns z (nI i) * z (3 * i) / 10 then 999 else z (3 * i + 2) + rWIns z (nI i) * z (3 * i) / 10 := by unfold rSk; rw [if_neg ht]
      have e := jA_add (x := z (3 * i + 2)) (y := rWIns z (nI i) * z (3 * i) / 10) (by omega) (by omega)
      rw [if_neg ht, eWIn G hi', bs, sF0 G _ (by omega), bs, mNm_e, mNm_e, rSinkN_w (by omega), rSinkN_ge (k := 3 * i) (by omega), if_pos (by rw [jA_le]; omega)]
      by_cases h2 : 999 < z (3 * i + 2) + rWIns z (nI i) * z (3 * i) / 10
      · rw [if_neg (fun q => by rw [jA_le] at q; rw [jA_lt] at h2; omega), eSinkPut G _ (by omega), mNm_e, jA_1, hsk, if_pos h2]
      · rw [if_pos (by rw [jA_le]; rw [jA_lt] at h2; omega), eSinkPut G _ (by omega), mNm_e, jA_1, hsk, if_neg h2]
  · show x6_sink_L2 (n + 1) (nI (rN z)) (sr G (rSinkN z (rN z))) = _
    rw [x6_sink_L2, sr_247, rSinkN_ge (k := 72) (by omega), hi.zn, if_pos ((jA_nle (by omega) (by omega)).mpr (Nat.le_refl _))]
    rfl
