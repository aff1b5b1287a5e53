/-! ANOTHER ROW: the same track -/
theorem rNM_72 {z w : mR} (h : w 72 = z 72) : rN w = rN z := by unfold rN; rw [h]
theorem rInv_gen {z w : mR} (hi : rInv z) (he : ∀ j, j < 36 ∨ j = 72 → w j = z j) (hm : rM w ≤ 4 ∧ w 73 = nI (rM w)) (hs : (10 ≤ (w 75).toInt ∧ (w 75).toInt ≤ 900) ∧ (1 ≤ (w 76).toInt ∧ (w 76).toInt ≤ 50) ∧ (w 77 = 0 ∨ w 77 = 1 ∨ w 77 = 2)) (ht : ∀ t, t < rM w → (1 ≤ (w (36 + 9 * t + 0)).toInt ∧ (w (36 + 9 * t + 0)).toInt ≤ 6) ∧ (1 ≤ (w (36 + 9 * t + 1)).toInt ∧ (w (36 + 9 * t + 1)).toInt ≤ 20) ∧ (0 ≤ (w (36 + 9 * t + 2)).toInt ∧ (w (36 + 9 * t + 2)).toInt ≤ 120) ∧ (rPl w t < rN z ∧ w (36 + 9 * t + 3) = nI (rPl w t)) ∧ (w (36 + 9 * t + 4) = 0 ∨ w (36 + 9 * t + 4) = 1)) : rInv w := by
  have hn := hi.n
  have hN : rN w = rN z := rNM_72 (he 72 (Or.inr rfl))
  refine ⟨⟨by rw [hN]; exact hn.1, by rw [hN]; exact hn.2, hm.1⟩, by rw [hN, he 72 (Or.inr rfl)]; exact hi.zn, hm.2, hs, ⟨by rw [he 1 (Or.inl (by decide))]; exact hi.first, by rw [hN, he _ (Or.inl (by omega))]; exact hi.last⟩, fun s hs => ?_, fun t h => ?_⟩
  · rw [hN] at hs
    rw [he _ (Or.inl (by omega)), he _ (Or.inl (by omega)), he _ (Or.inl (by omega))]
    exact hi.seg hs
  · rw [hN]; exact ht t h
theorem Rs_gen {G G' : mM} {c : Nat} {z w : mR} (h : Rs G c z) (hi : rInv z) (hw : rInv w) (he : ∀ j, j < 36 ∨ j = 72 → w j = z j) (hG : ∀ d, c + 4 ≤ d → d < c + 16 → G' d = G d) (h3 : G' c 3 = G c 3) (hc : G' c 4 = w 73 ∧ G' c 5 = w 79 ∧ G' c 6 = w 78 ∧ G' c 7 = w 80 ∧ G' c 8 = w 81 ∧ G' c 9 = w 74) (hs : G' (c + 3) 0 = w 75 ∧ G' (c + 3) 1 = w 76 ∧ G' (c + 3) 2 = w 77) (ht : ∀ t, t < rM w → ∀ k, k < 9 → G' (c + 16 + t) k = w (36 + 9 * t + k)) : Rs G' c w := by
  have hn := hi.n
  have hN : rN w = rN z := rNM_72 (he 72 (Or.inr rfl))
  refine ⟨⟨by rw [h3, he 72 (Or.inr rfl)]; exact h.1.1, hc⟩, hs, fun s hs => ?_, fun s hs => ?_, ht⟩
  · rw [hN] at hs
    rw [hG _ (by omega) (by omega), he _ (Or.inl (by omega)), he _ (Or.inl (by omega)), rRoom_cong (z := z) (he 72 (Or.inr rfl)) (fun j hj _ => he j (Or.inl hj)) (by omega), rAb_cong hi hw (he 72 (Or.inr rfl)) (fun j hj _ => he j (Or.inl hj)) hs, rBe_cong (z := z) (fun j hj _ => he j (Or.inl hj)) (by omega)]
    exact h.seg hs
  · rw [hG _ (by omega) (by omega)]; exact h.bu hs
theorem rPl_upd {z : mR} {j : Nat} {v : Int32} {t : Nat} (h : 36 + 9 * t + 3 ≠ j) : rPl (upd z j v) t = rPl z t := by unfold rPl; rw [upd_n h]
def setL (j : Nat) (v : Int32) : Prop := (j = 0 → 10 ≤ v.toInt ∧ v.toInt ≤ 900) ∧ (j = 1 → 1 ≤ v.toInt ∧ v.toInt ≤ 50) ∧ (j = 2 → v = 0 ∨ v = 1 ∨ v = 2)
theorem rInv_setv {z : mR} (hi : rInv z) {j : Nat} (hj : j < 3) {v : Int32} (hv : setL j v) : rInv (upd z (75 + j) v) := by
  have hM : rM (upd z (75 + j) v) = rM z := rM_upd (by omega)
  have hm := hi.m
  refine rInv_gen hi (fun k hk => upd_n (by omega)) ⟨by rw [hM]; exact hm, by rw [hM, upd_n (by omega)]; exact hi.zm⟩ ⟨?_, ?_, ?_⟩ (fun t ht => ?_)
  · by_cases e : j = 0
    · subst e; rw [show 75 + 0 = 75 from rfl, upd_s]; exact hv.1 rfl
    · rw [upd_n (by omega)]; exact hi.set.1
  · by_cases e : j = 1
    · subst e; rw [show 75 + 1 = 76 from rfl, upd_s]; exact hv.2.1 rfl
    · rw [upd_n (by omega)]; exact hi.set.2.1
  · by_cases e : j = 2
    · subst e; rw [show 75 + 2 = 77 from rfl, upd_s]; exact hv.2.2 rfl
    · rw [upd_n (by omega)]; exact hi.set.2.2
  · rw [hM] at ht
    rw [upd_n (by omega), upd_n (by omega), upd_n (by omega), upd_n (by omega), upd_n (by omega), rPl_upd (by omega)]
    exact hi.tr ht
theorem Rs_setv {G : mM} {c : Nat} {z : mR} (h : Rs G c z) (hi : rInv z) {j : Nat} (hj : j < 3) {v : Int32} (hv : setL j v) : Rs (up2 G (c + 3) j v) c (upd z (75 + j) v) := by
  have hM : rM (upd z (75 + j) v) = rM z := rM_upd (by omega)
  have hm := hi.m
  have h' := h
  obtain ⟨a1, a2, a3, a4, a5, a6, a7⟩ := h'.1
  have b := h'.set
  refine Rs_gen h hi (rInv_setv hi hj hv) (fun k hk => upd_n (by omega)) (fun d d1 d2 => up2_other (by omega)) (by rw [up2_other (by omega)]) ⟨?_, ?_, ?_, ?_, ?_, ?_⟩ ⟨?_, ?_, ?_⟩ (fun t ht k hk => ?_)
  iterate 6 rw [up2_other (by omega), upd_n (by omega)]; assumption
  · by_cases e : j = 0
    · subst e; rw [up2_same, show 75 + 0 = 75 from rfl, upd_s]
    · rw [up2_ne (Or.inr (Ne.symm e)), upd_n (by omega)]; exact b.1
  · by_cases e : j = 1
    · subst e; rw [up2_same, show 75 + 1 = 76 from rfl, upd_s]
    · rw [up2_ne (Or.inr (Ne.symm e)), upd_n (by omega)]; exact b.2.1
  · by_cases e : j = 2
    · subst e; rw [up2_same, show 75 + 2 = 77 from rfl, upd_s]
    · rw [up2_ne (Or.inr (Ne.symm e)), upd_n (by omega)]; exact b.2.2
  · rw [hM] at ht
    rw [up2_other (by omega), upd_n (by omega)]; exact h'.tr ht hk
theorem Cl.up {G : mM} {c d k : Nat} {v : Int32} (h : Cl G c) (h5 : k ≠ 5 ∨ d < c + 4 ∨ c + 16 ≤ d) (h4 : k ≠ 4 ∨ d < c + 16 ∨ c + 20 ≤ d ∨ v = 0 ∨ v = 1) : Cl (up2 G d k v) c := by
  refine ⟨fun s hs => by rw [up2_ne (by omega)]; exact h.1 s hs, fun t ht => ?_⟩
  by_cases e : c + 16 + t = d ∧ 4 = k
  · obtain ⟨rfl, rfl⟩ := e
    rw [up2_same]
    rcases h4 with q | q | q | q
    · exact absurd rfl q
    · omega
    · omega
    · exact q
  · rw [up2_ne (by omega)]; exact h.2 t ht
/-- a record, then a change of the present State -/
theorem recThen {k : Nat} {A B : mM} (h : Rel k A B) : ∃ A' B', x0_remember 0 A = some A' ∧ x6_record B = some (sr B' (B 247)) ∧ Rel k A' (sr B' (B 247)) ∧ Rs A' 0 (B 247) ∧ rInv (B 247) ∧ Del k (B 247) ∧ Cl A' 0 ∧ (∀ e, e < 40 → A' e = A e) ∧ A' 241 1 = A 241 1 ∧ A' 242 = A 242 ∧ B' 251 = B 251 ∧ B' 246 6 = B 246 6 := by
  obtain ⟨A', B', h1, h2, h3, h4, h5, h6⟩ := recBoth h
  have e := h5 247 (by decide) (by decide)
  have e' : B' = sr B' (B 247) := by rw [← e]; exact (sr_id B').symm
  have h3' := h3.1
  rw [e] at h3'
  exact ⟨A', B', h1, h2.trans (congrArg some e'), e' ▸ h3, h3'.1, h3'.2.1, h3'.2.2, h3.2.1 0 (by decide), fun d hd => h4 d (Or.inl hd), congrFun (h4 241 (Or.inr (by decide))) 1, h4 242 (Or.inr (by decide)), h5 251 (by decide) (by decide), h6 6 (by decide)⟩
theorem Rel.put {k k' : Nat} {A A' B : mM} {z w : mR} (h : Rel k A (sr B z)) (hk : k ≤ k') (hA : ∀ d, 20 ≤ d → A' d = A d) (h1 : Rs A' 0 w) (h2 : rInv w) (h3 : Del k' w) (hc : Cl A' 0) : Rel k' A' (sr B w) :=
  h.now hk hA (fun d hd => by rw [sr_o hd, sr_o hd]) (by rw [sr_247]; exact ⟨h1, h2, h3⟩) hc
theorem Del.put {k : Nat} {z w : mR} (h : Del k z) (he : w 80 = z 80) : Del (k + 1) w := by unfold Del; rw [he]; exact h.mono (by omega)
theorem setOk {k : Nat} {A B : mM} (h : Rel k A B) {j : Nat} (hj : j < 3) {v : Int32} (hv : setL j v) :
    B2 k A B ((x0_remember 0 A).bind fun q_9 => mCk (mIn (nI j) 3) <| mNm (q_9 ((0 + 3)) (nI j).toNatClampNeg) fun v_11 => mCk (mIn (nI j) 3) <| mNm (up2 q_9 ((0 + 3)) (nI j).toNatClampNeg v) fun G_13 => some (v_11, G_13))
      ((x6_record B).bind fun q_3 => (x6_other (nI j) q_3).bind fun q_4 => mCk (mIn (((75 : Int32)) + nI j) 82) <| mNm (up2 q_3 247 ((((75 : Int32)) + nI j).toNatClampNeg) v) fun G_6 => some (q_4, G_6)) := by
  obtain ⟨A', B', h1, h2, h3, h4, h5, h6, h7, -⟩ := recThen h
  have e75 : (75 : Int32) + nI j = nI (75 + j) := nI_add 75 j
  have hr : A' (0 + 3) j = B 247 (75 + j) := by
    have := h4.set
    rcases (show j = 0 ∨ j = 1 ∨ j = 2 by omega) with rfl | rfl | rfl
    · exact this.1
    · exact this.2.1
    · exact this.2.2
  rw [h1, h2, bs, bs]
  unfold x6_other
  rw [mCk_t (jA_in hj (by decide)), mNm_e, mCk_t (jA_in hj (by decide)), mNm_e, e75, mCk_t (jA_in (by omega) (by decide)), bs, mCk_t (jA_in (by omega) (by decide)), mNm_e, jA_clamp (by omega), jA_clamp (by omega), sr_247, sr_up, hr]
  refine ⟨_, _, _, rfl, rfl, h3.put (by omega) (fun d hd => up2_other (by omega)) (Rs_setv h4 h5 hj hv) (rInv_setv h5 hj hv) (h6.put (upd_n (by omega))) (h7.up (by omega) (by omega))⟩
theorem nI_lit {j c : Nat} (hj : j < 2 ^ 31) (hc : c < 2 ^ 31) (h : j ≠ c) : ¬ nI j = nI c := fun q => h ((jA_neq hj hc).mp q)
theorem rel_set {k : Nat} {A B : mM} (h : Rel k A B) (x1 x2 : Int32) : B2 k A B (x5_set x1 x2 A) (x6_set x1 x2 B) := by
  have hno : B2 k A B (some ((-2 : Int32), A)) (some ((-2 : Int32), B)) := ⟨_, _, _, rfl, rfl, h.mono (by omega)⟩
  unfold x5_set x6_set x5_isSetting x6_isValue x6_within
  by_cases h0 : x1 < 0
  · rw [if_pos h0, bs, if_pos rfl, if_neg (fun q => by subst q; revert h0; decide), if_neg (fun q => by subst q; revert h0; decide), if_neg (fun q => by subst q; revert h0; decide), bs, if_pos rfl]
    exact hno
  · obtain ⟨j, hj, rfl⟩ := nI_of h0
    rw [if_neg h0]
    by_cases h3 : j < 3
    · rw [if_neg (show ¬ (3 : Int32) ≤ nI j from fun q => by have := (jA_nle (a := 3) (by decide) (by omega)).mp q; omega), bs, if_neg one_ne, mCk_t (jA_in h3 (by decide))]
      rcases (show j = 0 ∨ j = 1 ∨ j = 2 by omega) with rfl | rfl | rfl
      · have el := @jA_nlt' x2 10 (by decide)
        have eh := @jA_nlt' x2 900 (by decide)
        have e1 : mStat 1 (nI 0).toNatClampNeg = 10 := by decide
        have e2 : mStat 2 (nI 0).toNatClampNeg = 900 := by decide
        rw [if_pos (show nI 0 = 0 from rfl), e1]
        by_cases h1 : x2 < (10 : Int32)
        · rw [if_pos h1, if_pos h1, bs, mCk_t (Or.inl rfl), bs, if_pos rfl]
          exact hno
        · have h1' : ¬ x2.toInt < 10 := fun q => h1 (el.1.mpr q)
          rw [if_neg h1, if_neg h1, mCk_t (jA_in h3 (by decide)), e2]
          by_cases h2 : x2 ≤ (900 : Int32)
          · have h2' := eh.2.2.1.mp h2
            rw [if_pos h2, if_neg (show ¬ (900 : Int32) < x2 from fun q => by have := eh.2.1.mp q; omega), bs, mCk_t (Or.inr rfl), bs, if_neg one_ne]
            exact setOk h (j := 0) h3 ⟨fun _ => by omega, fun e => absurd e (by decide), fun e => absurd e (by decide)⟩
          · have h2' : ¬ x2.toInt ≤ 900 := fun q => h2 (eh.2.2.1.mpr q)
            rw [if_neg h2, if_pos (show (900 : Int32) < x2 from eh.2.1.mpr (by omega)), bs, mCk_t (Or.inl rfl), bs, if_pos rfl]
            exact hno
      · have el := @jA_nlt' x2 1 (by decide)
        have eh := @jA_nlt' x2 50 (by decide)
        have e1 : mStat 1 (nI 1).toNatClampNeg = 1 := by decide
        have e2 : mStat 2 (nI 1).toNatClampNeg = 50 := by decide
        rw [if_neg (show ¬ nI 1 = 0 by decide), if_pos (show nI 1 = 1 from rfl), e1]
        by_cases h1 : x2 < (1 : Int32)
        · rw [if_pos h1, if_pos h1, bs, mCk_t (Or.inl rfl), bs, if_pos rfl]
          exact hno
        · have h1' : ¬ x2.toInt < 1 := fun q => h1 (el.1.mpr q)
          rw [if_neg h1, if_neg h1, mCk_t (jA_in h3 (by decide)), e2]
          by_cases h2 : x2 ≤ (50 : Int32)
          · have h2' := eh.2.2.1.mp h2
            rw [if_pos h2, if_neg (show ¬ (50 : Int32) < x2 from fun q => by have := eh.2.1.mp q; omega), bs, mCk_t (Or.inr rfl), bs, if_neg one_ne]
            exact setOk h (j := 1) h3 ⟨fun e => absurd e (by decide), fun _ => by omega, fun e => absurd e (by decide)⟩
          · have h2' : ¬ x2.toInt ≤ 50 := fun q => h2 (eh.2.2.1.mpr q)
            rw [if_neg h2, if_pos (show (50 : Int32) < x2 from eh.2.1.mpr (by omega)), bs, mCk_t (Or.inl rfl), bs, if_pos rfl]
            exact hno
      · have el := @jA_nlt' x2 0 (by decide)
        have eh := @jA_nlt' x2 2 (by decide)
        have e1 : mStat 1 (nI 2).toNatClampNeg = 0 := by decide
        have e2 : mStat 2 (nI 2).toNatClampNeg = 2 := by decide
        rw [if_neg (show ¬ nI 2 = 0 by decide), if_neg (show ¬ nI 2 = 1 by decide), if_pos (show nI 2 = 2 from rfl), e1]
        by_cases h1 : x2 < (0 : Int32)
        · rw [if_pos h1, if_pos h1, bs, mCk_t (Or.inl rfl), bs, if_pos rfl]
          exact hno
        · have h1' : ¬ x2.toInt < 0 := fun q => h1 (el.1.mpr q)
          rw [if_neg h1, if_neg h1, mCk_t (jA_in h3 (by decide)), e2]
          by_cases h2 : x2 ≤ (2 : Int32)
          · have h2' := eh.2.2.1.mp h2
            rw [if_pos h2, if_neg (show ¬ (2 : Int32) < x2 from fun q => by have := eh.2.1.mp q; omega), bs, mCk_t (Or.inr rfl), bs, if_neg one_ne]
            exact setOk h (j := 2) h3 ⟨fun e => absurd e (by decide), fun e => absurd e (by decide), fun _ => by
              obtain ⟨i, hi, rfl, -⟩ := jA_of (x := x2) (n := 3) (by omega) (by omega)
              rcases (show i = 0 ∨ i = 1 ∨ i = 2 by omega) with rfl | rfl | rfl
              · exact Or.inl rfl
              · exact Or.inr (Or.inl rfl)
              · exact Or.inr (Or.inr rfl)⟩
          · have h2' : ¬ x2.toInt ≤ 2 := fun q => h2 (eh.2.2.1.mpr q)
            rw [if_neg h2, if_pos (show (2 : Int32) < x2 from eh.2.1.mpr (by omega)), bs, mCk_t (Or.inl rfl), bs, if_pos rfl]
            exact hno
    · rw [if_pos (show (3 : Int32) ≤ nI j from (jA_nle (a := 3) (by decide) (by omega)).mpr (by omega)), bs, if_pos rfl, if_neg (show ¬ nI j = (0 : Int32) from nI_lit (c := 0) hj (by decide) (by omega)), if_neg (show ¬ nI j = (1 : Int32) from nI_lit (c := 1) hj (by decide) (by omega)), if_neg (show ¬ nI j = (2 : Int32) from nI_lit (c := 2) hj (by decide) (by omega)), bs, if_pos rfl]
      exact hno
