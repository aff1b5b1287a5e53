/-! digest: the folds -/
theorem jlt {n i : Nat} (hn : n < 2 ^ 31) (h : i < n) : ¬ nI n ≤ nI i := fun q => by have := (jA_nle hn (by omega)).mp q; omega
theorem jge {n : Nat} (hn : n < 2 ^ 31) : nI n ≤ nI n := (jA_nle hn hn).mpr (Nat.le_refl _)
theorem bsome {α β : Type} {o : Option α} {f : α → β} {r : β} (h : (o.bind fun q => some (f q)) = some r) : ∃ q, o = some q ∧ f q = r := by
  cases o with
  | none => cases h
  | some q => cases h; exact ⟨q, rfl, rfl⟩
theorem cnt_now {j : Nat} (hj : j ≤ 7) (M : mM) : x6_count (nI j) M = x6_counted (nI j) M := by
  unfold x6_count
  rw [wn (nI j) 0 7 (l := 0) (h := 7) rfl rfl, bs, ite10, if_pos (by rw [jA_n (by omega)]; omega)]
  cases x6_counted (nI j) M <;> rfl
theorem set_now {j : Nat} (hj : j ≤ 2) (M : mM) : x6_setting (nI j) M = x6_other (nI j) M := by
  unfold x6_setting
  rw [wn (nI j) 0 2 (l := 0) (h := 2) rfl rfl, bs, ite10, if_pos (by rw [jA_n (by omega)]; omega)]
  cases x6_other (nI j) M <;> rfl
theorem acc_now {j : Nat} (hj : j ≤ 4) (M : mM) : x6_account (nI j) M = x6_accountNow (nI j) M := by
  unfold x6_account
  rw [wn (nI j) 0 4 (l := 0) (h := 4) rfl rfl, bs, ite10, if_pos (by rw [jA_n (by omega)]; omega)]
  cases x6_accountNow (nI j) M <;> rfl
theorem seg_now {s j : Nat} (hj : j ≤ 6) (M : mM) {n : Nat} (hn : M 247 72 = nI n) (h12 : n ≤ 12) (hs : s < n) : x6_segment (nI s) (nI j) M = x6_segmentNow (nI s) (nI j) M := by
  unfold x6_segment
  rw [eIsSeg hn h12, bs, ite10, if_pos (jA_in hs (by omega)), wn (nI j) 0 6 (l := 0) (h := 6) rfl rfl, bs, ite10, if_pos (by rw [jA_n (by omega)]; omega)]
  cases x6_segmentNow (nI s) (nI j) M <;> rfl
theorem trn_now {s j : Nat} (hj : j ≤ 9) (M : mM) {n : Nat} (hn : M 247 73 = nI n) (h4 : n ≤ 4) (hs : s < n) : x6_train (nI s) (nI j) M = x6_trainNow (nI s) (nI j) M := by
  unfold x6_train
  rw [eIsTrain hn h4, bs, ite10, if_pos (jA_in hs (by omega)), wn (nI j) 0 9 (l := 0) (h := 9) rfl rfl, bs, ite10, if_pos (by rw [jA_n (by omega)]; omega)]
  cases x6_trainNow (nI s) (nI j) M <;> rfl
theorem why_now {s : Nat} (M : mM) {n : Nat} (hn : M 247 73 = nI n) (h4 : n ≤ 4) (hs : s < n) : x6_why (nI s) M = x6_reason (nI s) M := by
  unfold x6_why
  rw [eIsTrain hn h4, bs, ite10, if_pos (jA_in hs (by omega))]
  cases x6_reason (nI s) M <;> rfl
/-- both sides of the folds -/
theorem fC {A : mM} (L : Nat → Int64 → Int32 → mM → Option Int64) (f : Int32 → mM → Option Int32) {K : Nat} (hK : K < 1900) (hL : ∀ n w i, L (n + 1) w i A = if nI K ≤ i then some w else (f i A).bind fun q_3 => (x5_mixed w q_3.toInt64 A).bind fun q_4 => mNm (i + (1 : Int32)) fun v_5 => L n q_4 v_5 A) (V : Nat → Int64) (w0 : Int64) (hV : ∀ i, i < K → ∃ r, f (nI i) A = some r ∧ V i = r.toInt64) : L mFu w0 0 A = some (hF V w0 K) := by
  have h := lpV (fun n w i => L n w i A) id (hF V w0) K (by omega) (fun n i hi => ?_) (fun n => ?_)
  · exact h
  · obtain ⟨r, h1, h2⟩ := hV i hi
    show L (n + 1) _ (nI i) A = L n _ (nI (i + 1)) A
    rw [hL, if_neg (jlt (by omega) hi), h1, bs]
    unfold x5_mixed
    rw [bs, mNm_e, jA_1, hF, h2]
  · show L (n + 1) _ (nI K) A = _
    rw [hL, if_pos (jge (by omega))]
    rfl
theorem fM {B : mM} (L : Nat → Int32 → mM → Option mM) (f : Int32 → mM → Option Int32) {K : Nat} (hK : K < 1900) (hL : ∀ n i M w, HM B M w → L (n + 1) i M = if nI K ≤ i then some M else (f i M).bind fun q_3 => (x6_mix q_3.toInt64 M).bind fun q_4 => mNm (i + (1 : Int32)) fun v_5 => L n v_5 q_4) (V : Nat → Int64) (w0 : Int64) (hV : ∀ i M w, i < K → HM B M w → ∃ r, f (nI i) M = some r ∧ V i = r.toInt64) {M : mM} (hM : HM B M w0) : ∃ M', L mFu 0 M = some M' ∧ HM B M' (hF V w0 K) := by
  have h := lpI (fun n M i => L n i M) id (fun i M => HM B M (hF V w0 i)) K (fun n i M hi hI => ?_) (fun n M hI => ?_) K 0 mFu M (by omega) (by unfold mFu; omega) hM
  · obtain ⟨M', h1, h2⟩ := h
    exact ⟨M', h1, h2⟩
  · obtain ⟨r, h1, h2⟩ := hV i M _ hi hI
    obtain ⟨M', m1, m2⟩ := hI.mix r.toInt64
    show ∃ a', L (n + 1) (nI i) M = L n (nI (i + 1)) a' ∧ _
    rw [hL _ _ _ _ hI, if_neg (jlt (by omega) hi), h1, bs, m1, bs, mNm_e, jA_1]
    exact ⟨M', rfl, by rw [hF, h2]; exact m2⟩
  · show L (n + 1) (nI K) M = _
    rw [hL _ _ _ _ hI, if_pos (jge (by omega))]
    rfl
def vSeg (A : mM) (i : Nat) : Int64 := gv (x5_segment (nI (i / 7)) (nI (i % 7)) A)
def vTrn (A : mM) (i : Nat) : Int64 := if i % 11 < 10 then gv (x5_train (nI (i / 11)) (nI (i % 11)) A) else gv (x5_why (nI (i / 11)) A)
theorem cSegs {A : mM} {z : mR} (h : Rs A 0 z) (hi : rInv z) (w : Int64) : x5_withSegments w A = some (hF (vSeg A) w (7 * rN z)) := by
  have hn := hi.n
  have hin : ∀ (s : Nat), s < rN z → x5_withSegments_L20 (nI s) mFu (hF (vSeg A) w (7 * s)) 0 A = some (hF (vSeg A) w (7 * (s + 1))) := fun s hs => by
    have hh := lpV (fun n w i => x5_withSegments_L20 (nI s) n w i A) id (fun f => hF (vSeg A) w (7 * s + f)) 7 (by decide) (fun n i hi7 => ?_) (fun n => ?_)
    · exact hh
    · obtain ⟨r, r1, -⟩ := rd_segment A h hi (nI s) (nI i)
      show x5_withSegments_L20 (nI s) (n + 1) _ (nI i) A = x5_withSegments_L20 (nI s) n _ (nI (i + 1)) A
      have hv : vSeg A (7 * s + i) = r.toInt64 := by
        unfold vSeg
        rw [show (7 * s + i) / 7 = s by omega, show (7 * s + i) % 7 = i by omega, r1]; rfl
      rw [x5_withSegments_L20, if_neg (show ¬ (7 : Int32) ≤ nI i from jlt (n := 7) (by decide) hi7), r1, bs]
      unfold x5_mixed
      rw [bs, mNm_e, jA_1, show 7 * s + (i + 1) = (7 * s + i) + 1 from rfl, hF, hv]
    · show x5_withSegments_L20 (nI s) (n + 1) _ (nI 7) A = _
      rw [x5_withSegments_L20, if_pos (show (7 : Int32) ≤ nI 7 from jge (n := 7) (by decide))]
      rfl
  have ho := lpV (fun n w i => x5_withSegments_L5 n w i A) id (fun s => hF (vSeg A) w (7 * s)) (rN z) (by omega) (fun n i hi' => ?_) (fun n => ?_)
  · unfold x5_withSegments
    rw [show x5_withSegments_L5 mFu w 0 A = _ from ho, bs]
    rfl
  · show x5_withSegments_L5 (n + 1) _ (nI i) A = x5_withSegments_L5 n _ (nI (i + 1)) A
    rw [x5_withSegments_L5, h.n hi, if_neg (jlt (by omega) hi'), hin i hi', bs, mNm_e, jA_1]
  · show x5_withSegments_L5 (n + 1) _ (nI (rN z)) A = _
    rw [x5_withSegments_L5, h.n hi, if_pos (jge (by omega))]
    rfl
theorem cTrns {A : mM} {z : mR} (h : Rs A 0 z) (hi : rInv z) (w : Int64) : x5_withTrains w A = some (hF (vTrn A) w (11 * rM z)) := by
  have hm := hi.m
  have hin : ∀ (s : Nat), s < rM z → x5_withTrains_L20 (nI s) mFu (hF (vTrn A) w (11 * s)) 0 A = some (hF (vTrn A) w (11 * s + 10)) := fun s hs => by
    have hh := lpV (fun n w i => x5_withTrains_L20 (nI s) n w i A) id (fun f => hF (vTrn A) w (11 * s + f)) 10 (by decide) (fun n i hi7 => ?_) (fun n => ?_)
    · exact hh
    · obtain ⟨r, r1, -⟩ := rd_train A h hi (nI s) (nI i)
      show x5_withTrains_L20 (nI s) (n + 1) _ (nI i) A = x5_withTrains_L20 (nI s) n _ (nI (i + 1)) A
      have hv : vTrn A (11 * s + i) = r.toInt64 := by
        unfold vTrn
        rw [show (11 * s + i) / 11 = s by omega, show (11 * s + i) % 11 = i by omega, if_pos hi7, r1]; rfl
      rw [x5_withTrains_L20, if_neg (show ¬ (10 : Int32) ≤ nI i from jlt (n := 10) (by decide) hi7), r1, bs]
      unfold x5_mixed
      rw [bs, mNm_e, jA_1, show 11 * s + (i + 1) = (11 * s + i) + 1 from rfl, hF, hv]
    · show x5_withTrains_L20 (nI s) (n + 1) _ (nI 10) A = _
      rw [x5_withTrains_L20, if_pos (show (10 : Int32) ≤ nI 10 from jge (n := 10) (by decide))]
      rfl
  have ho := lpV (fun n w i => x5_withTrains_L5 n w i A) id (fun s => hF (vTrn A) w (11 * s)) (rM z) (by omega) (fun n i hi' => ?_) (fun n => ?_)
  · unfold x5_withTrains
    rw [show x5_withTrains_L5 mFu w 0 A = _ from ho, bs]
    rfl
  · obtain ⟨r, r1, -⟩ := rd_why A h hi (nI i)
    have hv : vTrn A (11 * i + 10) = r.toInt64 := by
      unfold vTrn
      rw [show (11 * i + 10) / 11 = i by omega, show (11 * i + 10) % 11 = 10 by omega, if_neg (by decide), r1]; rfl
    show x5_withTrains_L5 (n + 1) _ (nI i) A = x5_withTrains_L5 n _ (nI (i + 1)) A
    rw [x5_withTrains_L5, h.m hi, if_neg (jlt (by omega) hi'), hin i hi', bs, r1, bs]
    unfold x5_mixed
    rw [bs, mNm_e, jA_1, show 11 * (i + 1) = (11 * i + 10) + 1 by omega, show hF (vTrn A) w (11 * i + 10 + 1) = 31 * hF (vTrn A) w (11 * i + 10) + vTrn A (11 * i + 10) from rfl, hv]
  · show x5_withTrains_L5 (n + 1) _ (nI (rM z)) A = _
    rw [x5_withTrains_L5, h.m hi, if_pos (jge (by omega))]
    rfl
theorem div7 : ∀ i : Fin 84, nI i.1 / (7 : Int32) = nI (i.1 / 7) ∧ nI i.1 - nI (i.1 / 7) * (7 : Int32) = nI (i.1 % 7) := by decide +kernel
theorem HM.z72 {B M : mM} {w : Int64} (h : HM B M w) (hi : rInv (B 247)) : M 247 72 = nI (rN (B 247)) ∧ M 247 73 = nI (rM (B 247)) := by rw [h.1]; exact ⟨hi.zn, hi.zm⟩
theorem mSegs {A B M : mM} {w : Int64} (h : Rs A 0 (B 247)) (hi : rInv (B 247)) (hM : HM B M w) : ∃ M', x6_digest_L79 mFu 0 M = some M' ∧ HM B M' (hF (vSeg A) w (7 * rN (B 247))) := by
  have hn := hi.n
  have hh := lpI (fun n M i => x6_digest_L79 n i M) id (fun i M => HM B M (hF (vSeg A) w i)) (7 * rN (B 247)) (fun n i M hi' hI => ?_) (fun n M hI => ?_) (7 * rN (B 247)) 0 mFu M (by omega) (by unfold mFu; omega) hM
  · obtain ⟨M', h1, h2⟩ := hh
    exact ⟨M', h1, h2⟩
  · have q72 := (hI.z72 hi).1
    obtain ⟨d1, d2⟩ := div7 ⟨i, by omega⟩
    dsimp only at d1 d2
    obtain ⟨r, r1, r2⟩ := rd_segment M h hi (nI (i / 7)) (nI (i % 7))
    rw [← hI.eqs, seg_now (by omega) M q72 hn.2 (by omega)] at r2
    obtain ⟨M', m1, m2⟩ := hI.mix r.toInt64
    have hv : vSeg A i = r.toInt64 := by unfold vSeg; rw [r1]; rfl
    show ∃ a', x6_digest_L79 (n + 1) (nI i) M = x6_digest_L79 n (nI (i + 1)) a' ∧ _
    rw [x6_digest_L79, q72, show (7 : Int32) * nI (rN (B 247)) = nI (7 * rN (B 247)) from pk_mul 7 _, if_neg (jlt (by omega) hi'), d1, d2, r2, bs, m1, bs, mNm_e, jA_1]
    exact ⟨M', rfl, by rw [hF, hv]; exact m2⟩
  · have q72 := (hI.z72 hi).1
    show x6_digest_L79 (n + 1) (nI (7 * rN (B 247))) M = _
    rw [x6_digest_L79, q72, show (7 : Int32) * nI (rN (B 247)) = nI (7 * rN (B 247)) from pk_mul 7 _, if_pos (jge (by omega))]
    rfl
theorem mTrns {A B M : mM} {w : Int64} (h : Rs A 0 (B 247)) (hi : rInv (B 247)) (hM : HM B M w) : ∃ M', x6_digest_L118 mFu 0 M = some M' ∧ HM B M' (hF (vTrn A) w (11 * rM (B 247))) := by
  have hm := hi.m
  have hin : ∀ (s : Nat) (M : mM), s < rM (B 247) → HM B M (hF (vTrn A) w (11 * s)) → ∃ M', x6_digest_L131 (nI s) mFu 0 M = some M' ∧ HM B M' (hF (vTrn A) w (11 * s + 10)) := fun s M hs hM => by
    have hh := lpI (fun n M i => x6_digest_L131 (nI s) n i M) id (fun i M => HM B M (hF (vTrn A) w (11 * s + i))) 10 (fun n i M hi' hI => ?_) (fun n M hI => ?_) 10 0 mFu M (by omega) (by unfold mFu; decide) hM
    · obtain ⟨M', h1, h2⟩ := hh
      exact ⟨M', h1, h2⟩
    · obtain ⟨r, r1, r2⟩ := rd_train M h hi (nI s) (nI i)
      rw [← hI.eqs, trn_now (by omega) M (hI.z72 hi).2 hm hs] at r2
      obtain ⟨M', m1, m2⟩ := hI.mix r.toInt64
      have hv : vTrn A (11 * s + i) = r.toInt64 := by
        unfold vTrn
        rw [show (11 * s + i) / 11 = s by omega, show (11 * s + i) % 11 = i by omega, if_pos hi', r1]; rfl
      show ∃ a', x6_digest_L131 (nI s) (n + 1) (nI i) M = x6_digest_L131 (nI s) n (nI (i + 1)) a' ∧ _
      rw [x6_digest_L131, if_neg (show ¬ (10 : Int32) ≤ nI i from jlt (n := 10) (by decide) hi'), r2, bs, m1, bs, mNm_e, jA_1]
      exact ⟨M', rfl, by rw [show 11 * s + (i + 1) = (11 * s + i) + 1 from rfl, hF, hv]; exact m2⟩
    · show x6_digest_L131 (nI s) (n + 1) (nI 10) M = _
      rw [x6_digest_L131, if_pos (show (10 : Int32) ≤ nI 10 from jge (n := 10) (by decide))]
      rfl
  have hh := lpI (fun n M i => x6_digest_L118 n i M) id (fun i M => HM B M (hF (vTrn A) w (11 * i))) (rM (B 247)) (fun n i M hi' hI => ?_) (fun n M hI => ?_) (rM (B 247)) 0 mFu M (by omega) (by unfold mFu; omega) hM
  · obtain ⟨M', h1, h2⟩ := hh
    exact ⟨M', h1, h2⟩
  · obtain ⟨M1, p1, p2⟩ := hin i M hi' hI
    obtain ⟨r, r1, r2⟩ := rd_why M1 h hi (nI i)
    rw [← p2.eqs, why_now M1 (p2.z72 hi).2 hm hi'] at r2
    obtain ⟨M', m1, m2⟩ := p2.mix r.toInt64
    have hv : vTrn A (11 * i + 10) = r.toInt64 := by
      unfold vTrn
      rw [show (11 * i + 10) / 11 = i by omega, show (11 * i + 10) % 11 = 10 by omega, if_neg (by decide), r1]; rfl
    show ∃ a', x6_digest_L118 (n + 1) (nI i) M = x6_digest_L118 n (nI (i + 1)) a' ∧ _
    rw [x6_digest_L118, (hI.z72 hi).2, if_neg (jlt (by omega) hi'), p1, bs, r2, bs, m1, bs, mNm_e, jA_1]
    exact ⟨M', rfl, by rw [show 11 * (i + 1) = (11 * i + 10) + 1 by omega, hF, hv]; exact m2⟩
  · show x6_digest_L118 (n + 1) (nI (rM (B 247))) M = _
    rw [x6_digest_L118, (hI.z72 hi).2, if_pos (jge (by omega))]
    rfl
theorem rel_digest {k : Nat} {A B : mM} (h : Rel k A B) : ∃ r A' B', x5_digest A = some (r, A') ∧ x6_digest B = some (r, B') ∧ Rel (k + 1) A' B' := by
  have hi := h.1.2.1
  have hR := h.1.1
  obtain ⟨len, t1, t2, t3, t4⟩ := h.2.2.1
  have H0 : HM B (upL B 246 2069) 2069 := ⟨upL_other (by decide), fun d d1 _ _ => upL_other d1, fun j hj => upL_ne hj, upL_long _ _ _⟩
  -- the counts
  have V1 : ∀ i M w, i < 8 → HM B M w → ∃ r, x5_count (nI i) A = some r ∧ x6_counted (nI i) M = some r := fun i M w hi8 hM => by
    obtain ⟨r, r1, r2⟩ := rd_count (hM.rel h) (nI i)
    rw [cnt_now (by omega)] at r2
    exact ⟨r, r1, r2⟩
  have c1 := fC (A := A) x5_digest_L6 x5_count (K := 8) (by decide) (fun n w i => by rw [x5_digest_L6]; rfl) (fun i => gv (x5_count (nI i) A)) 2069 (fun i hi8 => by obtain ⟨r, r1, -⟩ := V1 i _ _ hi8 H0; exact ⟨r, r1, by rw [r1]; rfl⟩)
  obtain ⟨M1, e1, H1⟩ := fM (B := B) x6_digest_L9 x6_counted (K := 8) (by decide) (fun n i M w _ => by rw [x6_digest_L9]; rfl) (fun i => gv (x5_count (nI i) A)) 2069 (fun i M w hi8 hM => by obtain ⟨r, r1, r2⟩ := V1 i M w hi8 hM; exact ⟨r, r2, by rw [r1]; rfl⟩) H0
  -- the settings
  have V2 : ∀ i M w, i < 3 → HM B M w → ∃ r, x5_setting (nI i) A = some r ∧ x6_other (nI i) M = some r := fun i M w hi8 hM => by
    obtain ⟨r, r1, r2⟩ := rd_setting M hR (nI i)
    rw [← hM.eqs, set_now (by omega)] at r2
    exact ⟨r, r1, r2⟩
  have c2 := fC (A := A) x5_digest_L31 x5_setting (K := 3) (by decide) (fun n w i => by rw [x5_digest_L31]; rfl) (fun i => gv (x5_setting (nI i) A)) (hF (fun i => gv (x5_count (nI i) A)) 2069 8) (fun i hi8 => by obtain ⟨r, r1, -⟩ := V2 i _ _ hi8 H0; exact ⟨r, r1, by rw [r1]; rfl⟩)
  obtain ⟨M2, e2, H2⟩ := fM (B := B) x6_digest_L33 x6_other (K := 3) (by decide) (fun n i M w _ => by rw [x6_digest_L33]; rfl) (fun i => gv (x5_setting (nI i) A)) _ (fun i M w hi8 hM => by obtain ⟨r, r1, r2⟩ := V2 i M w hi8 hM; exact ⟨r, r2, by rw [r1]; rfl⟩) H1
  -- the account
  have V3 : ∀ i M w, i < 5 → HM B M w → ∃ r, x5_account (nI i) A = some r ∧ x6_accountNow (nI i) M = some r := fun i M w hi8 hM => by
    obtain ⟨r, r1, r2⟩ := rd_account M hR hi (nI i)
    rw [← hM.eqs, acc_now (by omega)] at r2
    exact ⟨r, r1, r2⟩
  have c3 := fC (A := A) x5_digest_L55 x5_account (K := 5) (by decide) (fun n w i => by rw [x5_digest_L55]; rfl) (fun i => gv (x5_account (nI i) A)) (hF (fun i => gv (x5_setting (nI i) A)) (hF (fun i => gv (x5_count (nI i) A)) 2069 8) 3) (fun i hi8 => by obtain ⟨r, r1, -⟩ := V3 i _ _ hi8 H0; exact ⟨r, r1, by rw [r1]; rfl⟩)
  obtain ⟨M3, e3, H3⟩ := fM (B := B) x6_digest_L56 x6_accountNow (K := 5) (by decide) (fun n i M w _ => by rw [x6_digest_L56]; rfl) (fun i => gv (x5_account (nI i) A)) _ (fun i M w hi8 hM => by obtain ⟨r, r1, r2⟩ := V3 i M w hi8 hM; exact ⟨r, r2, by rw [r1]; rfl⟩) H2
  obtain ⟨w3, hw3⟩ : ∃ w3, w3 = hF (fun i => gv (x5_account (nI i) A)) (hF (fun i => gv (x5_setting (nI i) A)) (hF (fun i => gv (x5_count (nI i) A)) 2069 8) 3) 5 := ⟨_, rfl⟩
  rw [← hw3] at c3 H3
  -- the segments and the trains
  obtain ⟨M4, e4, H4⟩ := mSegs hR hi H3
  obtain ⟨M5, e5, H5⟩ := mTrns hR hi H4
  have c4 := cSegs hR hi w3
  have c5 := cTrns hR hi (hF (vSeg A) w3 (7 * rN (B 247)))
  -- what would be
  obtain ⟨A1, A2, a1, a2, a3, a4, a5, a6⟩ := cTrial hR hi (h.2.1 0 (by decide)) (h.2.1 1 (by decide)) (n := 50) (by decide)
  have hR2 : Rs A2 0 (B 247) := hR.o hi.n.2 hi.m (fun d _ hd => a5 d (by omega))
  have c6 := fC (A := A2) x5_digest_L110 x5_foreseen (K := 4) (by decide) (fun n w i => by rw [x5_digest_L110]; rfl) (fun i => (rAh (B 247) 50 (nI i)).toInt64) (hF (vTrn A) (hF (vSeg A) w3 (7 * rN (B 247))) (11 * rM (B 247))) (fun i hi8 => ⟨_, cFore (A0 := A2) hR2 hi a3 a4 (nI i) (by rw [jA_n (by omega)]; omega), rfl⟩)
  have e6 := lpI (fun n M i => x6_digest_L172 n i M) id (fun i M => HM B M (hF (fun i => (rAh (B 247) 50 (nI i)).toInt64) (hF (vTrn A) (hF (vSeg A) w3 (7 * rN (B 247))) (11 * rM (B 247))) i)) 4 (fun n i M hi4 hI => by
      obtain ⟨M', m1, m2⟩ := hI.ahead hi (n := 50) (by decide) (nI i)
      obtain ⟨M'', m3, m4⟩ := m2.mix (rAh (B 247) 50 (nI i)).toInt64
      show ∃ a', x6_digest_L172 (n + 1) (nI i) M = x6_digest_L172 n (nI (i + 1)) a' ∧ _
      rw [x6_digest_L172, if_neg (show ¬ (4 : Int32) ≤ nI i from jlt (n := 4) (by decide) hi4), show x6_ahead 50 (nI i) M = _ from m1, bs, m3, bs, mNm_e, jA_1]
      exact ⟨M'', rfl, m4⟩) (fun n M hI => by
      show x6_digest_L172 (n + 1) (nI 4) M = _
      rw [x6_digest_L172, if_pos (show (4 : Int32) ≤ nI 4 from jge (n := 4) (by decide))]
      rfl) 4 0 mFu M5 rfl (by unfold mFu; decide) H5
  obtain ⟨M6, e6, H6⟩ := e6
  obtain ⟨w6, hw6⟩ : ∃ w6, w6 = hF (fun i => (rAh (B 247) 50 (nI i)).toInt64) (hF (vTrn A) (hF (vSeg A) w3 (7 * rN (B 247))) (11 * rM (B 247))) 4 := ⟨_, rfl⟩
  rw [← hw6] at c6 H6
  -- the mean
  obtain ⟨d1, d2, d3⟩ := mean_d hi
  have g1 := (rd_mean A2 hR2 hi).1
  have g2 := (rd_mean M6 hR2 hi).2
  rw [← H6.eqs] at g2
  revert d1 d2 d3 g1 g2
  generalize FP.ddiv (FP.i2d (rSum (B 247))) (FP.i2d (nI (rN (B 247)))) = mn
  intro d1 d2 d3 g1 g2
  obtain ⟨M7, e7, H7⟩ := H6.mix mn.toInt64
  obtain ⟨M8, e8, H8⟩ := H7.mix (nI len).toInt64
  have q241 : A2 241 1 = nI len := by rw [a5 241 (by decide)]; exact t2
  have c7 : ∀ w, x5_digest_L159 mFu w 0 A2 = some (hF (fun i => (B 251 i).toInt64) w len) := fun w => by
    have hh := lpV (fun n w i => x5_digest_L159 n w i A2) id (hF (fun i => (B 251 i).toInt64) w) len (by omega) (fun n i hi' => ?_) (fun n => ?_)
    · exact hh
    · show x5_digest_L159 (n + 1) _ (nI i) A2 = x5_digest_L159 n _ (nI (i + 1)) A2
      have hcode : x1_codeAt (nI i) A2 = some (B 251 i) := by
        unfold x1_codeAt
        rw [if_neg (nI_pos (by omega)), if_neg (show ¬ (40 : Int32) ≤ nI i from jlt (n := 40) (by decide) (by omega)), mCk_t (jA_in (by omega) (by decide)), jA_clamp (by omega), a5 242 (by decide), (t4 i hi').1]
      rw [x5_digest_L159]
      unfold x1_length
      rw [bs, q241, if_neg (jlt (by omega) hi'), hcode, bs]
      unfold x5_mixed
      rw [bs, mNm_e, jA_1, hF]
    · show x5_digest_L159 (n + 1) _ (nI len) A2 = _
      rw [x5_digest_L159]
      unfold x1_length
      rw [bs, q241, if_pos (jge (by omega))]
      rfl
  have e9 := lpI (fun n M i => x6_digest_L217 n i M) id (fun i M => HM B M (hF (fun i => (B 251 i).toInt64) (31 * (31 * w6 + mn.toInt64) + (nI len).toInt64) i)) len (fun n i M hi' hI => by
      obtain ⟨M', m1, m2⟩ := hI.mix (B 251 i).toInt64
      have q6 : M 246 6 = nI len := by rw [hI.2.2.1 6 (by decide)]; exact t3
      have q51 : M 251 = B 251 := hI.2.1 251 (by decide) (by decide) (by decide)
      show ∃ a', x6_digest_L217 (n + 1) (nI i) M = x6_digest_L217 n (nI (i + 1)) a' ∧ _
      rw [x6_digest_L217, q6, if_neg (jlt (by omega) hi'), mCk_t (jA_in (by omega) (by decide)), jA_clamp (by omega), q51, m1, bs, mNm_e, jA_1]
      exact ⟨M', rfl, m2⟩) (fun n M hI => by
      have q6 : M 246 6 = nI len := by rw [hI.2.2.1 6 (by decide)]; exact t3
      show x6_digest_L217 (n + 1) (nI len) M = _
      rw [x6_digest_L217, q6, if_pos (jge (by omega))]
      rfl) len 0 mFu M8 (by omega) (by unfold mFu; omega) H8
  obtain ⟨M9, e9, H9⟩ := e9
  have q76 : M7 246 6 = nI len := by rw [H7.2.2.1 6 (by decide)]; exact t3
  refine ⟨hF (fun i => (B 251 i).toInt64) (31 * (31 * w6 + mn.toInt64) + (nI len).toInt64) len, A2, M9, ?_, ?_, ?_⟩
  · unfold x5_digest
    rw [mNm_e, c1, bs, c2, bs, c3, bs, c4, bs, c5, bs, a1, bs, show x3_pass 20 50 A1 = _ from a2, bs, c6, bs, g1, bs, d3, bs]
    unfold x5_mixed x1_length
    rw [bs, bs, bs]
    dsimp only
    rw [q241, c7, bs]
  · unfold x6_digest
    rw [mNm_e, e1, bs, e2, bs, e3, bs, e4, bs, e5, bs, show x6_digest_L172 mFu 0 M5 = some M6 from e6, bs, g2, bs, mCk_t d2, e7, bs, q76, e8, bs, show x6_digest_L217 mFu 0 M8 = some M9 from e9, bs]
    rw [show mLong (M9 246 10) (M9 246 11) = _ from H9.2.2.2]
  · exact ((H9.rel h).trial a5 (fun _ _ => rfl) a6).mono (by omega)
