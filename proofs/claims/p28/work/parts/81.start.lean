/-! WHERE BOTH BEGIN -/
def g0 : mM := fun _ _ => 0
def moSv (i : Nat) : Int32 := if i = 3 then 2 else if i = 0 then 0 else if i = 6 then 0 else 4
def moFl (i : Nat) : Int32 := if i % 3 = 0 then 1 else 0
def moW : Nat → mR
  | 0 => upd (fun _ => 0) 72 7
  | i + 1 => upd (upd (upd (moW i) (3 * i) (moSv i)) (3 * i + 1) (if moFl i = 0 then 0 else 1)) (3 * i + 2) 0
def gMo : mM := sr g0 (upd (upd (moW 7) 75 300) 76 5)
def cd0 : Nat → Int32 := fun i => ([48, 112, 44, 52, 44, 52, 44, 50, 112, 44, 52, 44, 52, 44, 48, 112] : List Int32).getD i 0
def gI : mM := fun c k => if c = 244 then nI (40 + 20 * k) else if c < 240 ∧ c % 20 = 3 then mStat 0 k else 0
def gA (n : Nat) : mM := fun c k => if c = 241 ∧ k = 1 then nI n else if c = 242 ∧ k < n then cd0 k else gI c k
theorem gA_0 : gA 0 = gI := by
  funext c k
  unfold gA
  by_cases h : c = 241 ∧ k = 1
  · rw [if_pos h, h.1, h.2]; rfl
  · rw [if_neg h, if_neg (by omega)]
theorem gA_s {i : Nat} (h : i < 16) : x1_append (cd0 i) (gA i) = some (gA (i + 1)) := by
  have h1 : gA i 241 1 = nI i := by unfold gA; rw [if_pos ⟨rfl, rfl⟩]
  unfold x1_append
  rw [h1, if_neg (nI_pos (by omega)), if_neg (show ¬ (40 : Int32) ≤ nI i from jlt (n := 40) (by decide) (by omega)), mCk_t (jA_in (by omega) (by decide)), mNm_e, mNm_e, up2_ne (Or.inl (by decide)), h1, jA_1, jA_clamp (by omega)]
  have hc : vp_nar .char (cd0 i) = cd0 i := by
    have : ∀ j : Fin 16, vp_nar .char (cd0 j.1) = cd0 j.1 := by decide
    exact this ⟨i, h⟩
  rw [hc]
  congr 1
  funext c k
  unfold up2 gA
  by_cases a : c = 241 ∧ k = 1
  · rw [if_pos a, if_pos a]
  · simp only [if_neg a]
    by_cases b : c = 242 ∧ k = i
    · rw [if_pos b, if_pos ⟨b.1, by omega⟩, b.2]
    · rw [if_neg b]
      by_cases d : c = 242 ∧ k < i
      · rw [if_pos d, if_pos ⟨d.1, by omega⟩]
      · rw [if_neg d, if_neg (by omega)]
def hT0 : mM := fun c k => if c = 246 ∧ k = 6 then nI 16 else if c = 251 then cd0 k else 0
theorem trk16 : trk cd0 16 = some (2, 7) := by decide +kernel
/-- the reference's own reading of the first track, on a row of noughts -/
theorem lay0 : (x6_layTrack_L47 mFu 0 (sr hT0 (fun _ => 0))).map (fun M => (List.range 22).map (M 247)) = some ((List.range 22).map (fun j => if j = 19 then 1 else moW 7 j)) := by decide +kernel
/-- the first track, as the class lays it -/
theorem lay1 : ∃ G' w', x1_layOnto_L6 0 mFu 0 (up2 (gA 16) 0 3 0) = some G' ∧ LI G' w' 7 ∧ FrC (up2 (gA 16) 0 3 0) G' ∧ ∀ j, j < 21 → w' j = moW 7 j := by
  have hcd : ∀ i, i < 16 → gA 16 242 i = cd0 i := fun i hi => by unfold gA; rw [if_neg (by omega), if_pos ⟨rfl, hi⟩]
  obtain ⟨G', w', p', b', t1, t2, t3, L, F1, F2⟩ := layB (cd := cd0) (len := 16) (by decide) (by rw [trk16]; exact fun q => by cases q) (G0 := up2 (gA 16) 0 3 0) (H := hT0) (w0 := fun _ => 0) (by rw [up2_other (by decide)]; rfl) (fun i hi => by rw [up2_other (by decide)]; exact hcd i hi) rfl (fun i _ => by unfold hT0; rw [if_neg (by omega), if_pos rfl]) 16 0 mFu mFu 0 0 _ _ (by decide) (by unfold mFu; decide) (by unfold mFu; decide) rfl ⟨up2_same _ _ _ _, rfl, fun s hs => absurd hs (by omega)⟩ FrC.rf (fun _ _ _ => rfl)
  rw [trk16] at t1
  cases t1
  refine ⟨G', w', t2, L, F1, fun j hj => ?_⟩
  have e := lay0
  rw [show x6_layTrack_L47 mFu 0 (sr hT0 (fun _ => 0)) = _ from t3, Option.map_some, Option.some.injEq, sr_247] at e
  have := List.map_inj_left.mp e j (List.mem_range.mpr (by omega))
  rw [this]
  by_cases e19 : j = 19
  · subst e19; rw [if_pos rfl]; decide
  · rw [if_neg e19]
def z00 : mR := upd (upd (moW 7) 75 300) 76 5
theorem z00_N : rN z00 = 7 ∧ rM z00 = 0 := by decide
theorem z00_seg : ∀ s : Fin 7, (z00 (3 * s.1 + 1) = 0 ∨ z00 (3 * s.1 + 1) = 1) ∧ (0 ≤ (z00 (3 * s.1)).toInt ∧ (z00 (3 * s.1)).toInt ≤ 9) ∧ z00 (3 * s.1 + 2) = 0 := by decide
theorem z00_inv : rInv z00 := by
  obtain ⟨hn, hm⟩ := z00_N
  refine ⟨by rw [hn, hm]; decide, by rw [hn]; decide, by rw [hm]; decide, by decide, by rw [hn]; decide, fun s hs => ?_, fun t ht => ?_⟩
  · rw [hn] at hs
    obtain ⟨a, b, c⟩ := z00_seg ⟨s, hs⟩
    dsimp only at a b c
    exact ⟨a, b, by rw [c]; decide, by rw [c]; decide⟩
  · rw [hm] at ht; exact absurd ht (by omega)
theorem z00_mo : ∀ j, j < 72 → z00 j = moW 7 j := fun j hj => by unfold z00; rw [upd_n (by omega), upd_n (by omega)]
theorem gI_0 {c k : Nat} (h : c ≠ 244) (h2 : c % 20 ≠ 3 ∨ 240 ≤ c) : gI c k = 0 := by
  unfold gI
  rw [if_neg h, if_neg (by omega)]
theorem gA_o {c k : Nat} (h1 : c ≠ 241) (h2 : c ≠ 242) : gA 16 c k = gI c k := by
  unfold gA
  rw [if_neg (by omega), if_neg (by omega)]
/-- what the constructors leave behind stands in the relation -/
theorem rel_start : ∃ A0, x1_layOnto 0 (gA 16) = some A0 ∧ Rel 0 (up2 A0 241 1 0) gMo ∧ ∀ d, 20 ≤ d → d ≠ 241 → d ≠ 242 → ∀ j, up2 A0 241 1 0 d j = gI d j := by
  obtain ⟨G', w', t2, ⟨L1, L2, L3⟩, F1, hw⟩ := lay1
  obtain ⟨hn, hm⟩ := z00_N
  have hi := z00_inv
  have hmid : ∀ s, s < 7 → s ≠ 0 → s + 1 ≠ 7 → G' (4 + s) 1 = rRoom z00 s := fun s hs s0 s1 => by
    have ez : z00 (3 * s + 1) = w' (3 * s + 1) := (z00_mo _ (by omega)).trans (hw _ (by omega)).symm
    unfold rRoom
    rw [if_neg (show ¬ rEnd z00 s from fun q => by rcases q with q | q <;> omega)]
    rcases (L3 s hs).2.2.2.2 with q | q
    · rw [if_pos (show rPs z00 s from ez.trans q.2)]; exact q.1
    · have q2 := q.2
      rw [if_neg s0] at q2
      rw [if_neg (show ¬ rPs z00 s from fun r => one_ne (r.symm.trans (ez.trans q2)))]; exact q.1
  obtain ⟨A2, g1, g2, g3⟩ := cEnd hi (A := G') (by rw [hn]; exact L1) (fun s hs s0 s1 => by rw [hn] at hs s1; exact hmid s hs s0 s1)
  refine ⟨A2, ?_, ?_⟩
  · unfold x1_layOnto x3_beginTrack
    rw [mNm_e, bs, t2, bs, g1, bs]
  have hO : ∀ d, d ≠ 0 → d ≠ 241 → d ≠ 242 → (d < 4 ∨ 16 ≤ d) → ∀ j, up2 A2 241 1 0 d j = gI d j := fun d hd h1 h2 hd2 j => by
    rw [up2_ne (Or.inl h1), g2 d hd2, F1.1 d hd hd2, up2_other hd, gA_o h1 h2]
  have hZ : ∀ j, j ≠ 3 → up2 A2 241 1 0 0 j = 0 := fun j hj => by
    rw [up2_ne (Or.inl (by decide)), g2 0 (by omega), F1.2.1 j hj, up2_ne (Or.inr hj), gA_o (by decide) (by decide), gI_0 (by decide) (by decide)]
  have h03 : up2 A2 241 1 0 0 3 = nI 7 := by rw [up2_ne (Or.inl (by decide)), g2 0 (by omega)]; exact L1
  have hbu : ∀ s, s < 12 → up2 A2 241 1 0 (0 + 4 + s) 5 = 0 := fun s hs => by
    rw [up2_ne (Or.inl (by omega)), show 0 + 4 + s = 4 + s by omega, (g3 s hs).2.2.1, F1.2.2 _ (by omega) (by omega), up2_other (by omega), gA_o (by omega) (by omega), gI_0 (by omega) (by omega)]
  have hz : gMo 247 = z00 := sr_247 _ _
  refine ⟨?_, fun d q1 q2 q3 j => hO d (by omega) q2 q3 (Or.inr (by omega)) j⟩
  refine ⟨⟨?_, by rw [hz]; exact hi, by rw [hz]; exact ⟨by decide, by decide⟩⟩, fun j hj => ⟨fun s hs => ?_, fun t ht => ?_⟩, ⟨0, by decide, up2_same _ _ _ _, by decide, fun i h => absurd h (by omega)⟩, ⟨0, fun i => 40 + 20 * i, by decide, ?_, by decide, fun i h => ⟨?_, i + 2, by omega, by omega, by show 40 + 20 * i = 20 * (i + 2); omega⟩, fun i i' _ _ q => by have q : 40 + 20 * i = 40 + 20 * i' := q; omega, fun i h => absurd h (by omega)⟩, ⟨0, by decide, ?_, by decide, fun q => absurd q (by decide), fun q => absurd q (by decide)⟩, fun e he => by
    funext j
    rw [hO e (by omega) (by omega) (by omega) (by omega), gI_0 (by omega) (by omega)]
    unfold gMo
    rw [sr_o (by omega)]
    rfl⟩
  · rw [hz]
    refine ⟨⟨by rw [h03]; decide, by rw [hZ 4 (by decide)]; decide, by rw [hZ 5 (by decide)]; decide, by rw [hZ 6 (by decide)]; decide, by rw [hZ 7 (by decide)]; decide, by rw [hZ 8 (by decide)]; decide, by rw [hZ 9 (by decide)]; decide⟩, ⟨?_, ?_, ?_⟩, fun s hs => ?_, hbu, fun t ht => ?_⟩
    · rw [hO (0 + 3) (by decide) (by decide) (by decide) (by decide)]; decide
    · rw [hO (0 + 3) (by decide) (by decide) (by decide) (by decide)]; decide
    · rw [hO (0 + 3) (by decide) (by decide) (by decide) (by decide)]; decide
    · rw [hn] at hs
      obtain ⟨q0, q2, q5, q1⟩ := g3 s (by omega)
      obtain ⟨y1, y3, y4⟩ := q1 (by rw [hn]; exact hs)
      obtain ⟨c1, c2, c3, c4, c5⟩ := L3 s hs
      rw [show 0 + 4 + s = 4 + s by omega, up2_ne (Or.inl (by omega)), up2_ne (Or.inl (by omega)), up2_ne (Or.inl (by omega)), up2_ne (Or.inl (by omega)), up2_ne (Or.inl (by omega)), q0, q2, y1, y3, y4, c1, c2, z00_mo (3 * s) (by omega), z00_mo (3 * s + 2) (by omega), ← hw (3 * s) (by omega), ← hw (3 * s + 2) (by omega), c3]
      exact ⟨rfl, rfl, rfl, rfl, rfl⟩
    · rw [hm] at ht; exact absurd ht (by omega)
  · by_cases e : j = 0
    · subst e; exact hbu s hs
    · rw [hO _ (by omega) (by omega) (by omega) (by omega), gI_0 (by omega) (by omega)]
  · left
    rw [hO _ (by omega) (by omega) (by omega) (by omega), gI_0 (by omega) (by omega)]
  · rw [hO 243 (by decide) (by decide) (by decide) (by decide)]; decide
  · rw [hO 244 (by decide) (by decide) (by decide) (by decide)]; unfold gI; rw [if_pos rfl]
  · rw [hO 240 (by decide) (by decide) (by decide) (by decide)]; decide
