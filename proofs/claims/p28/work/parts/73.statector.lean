/-! State(): the whole -/
theorem arrV_c {cA : ClassId} {n : Nat} {f g : Nat → Value} (h : ∀ j, j < n → f j = g j) : arrV cA n f = arrV cA n g := by
  unfold arrV
  congr 1
  apply Array.ext
  · simp
  · intro i h1 h2
    simp at h1 ⊢
    exact h i h1
theorem rwq_eq {D : va_G} {cl : List vw_C} {a n : Nat} {cA : ClassId} {g g' : Nat → Option Nat} {H : Heap} (h : ∀ j, j < n → g j = g' j) (ha : va_at D cl (a, rwq cA n g) H) : va_at D cl (a, rwq cA n g') H := by
  show H[a]? = some (vp_cell cA (n, .inr (.inr (.inr (.inr g')))))
  rw [vp_cell_q, ← arrV_c (fun j hj => congrArg va_rf (h j hj))]
  exact ha
theorem rwi_eq {D : va_G} {cl : List vw_C} {a n : Nat} {cA : ClassId} {g g' : Nat → Int32} {H : Heap} (h : ∀ j, j < n → g j = g' j) (ha : va_at D cl (a, .inl (cA, n, .inl g)) H) : va_at D cl (a, .inl (cA, n, .inl g')) H := by
  show H[a]? = some (vp_cell cA (n, .inl g'))
  rw [vp_cell_i, ← arrV_c (fun j hj => congrArg Value.int (h j hj))]
  exact ha
def scell (Y : Nat → ClassId) (u : Nat → Nat) (r : Nat) : va_E :=
  if r = 0 then .inr (3, vSt0 (.ref (u 1)) (.ref (u 2)) (.ref (u 3)))
  else if r = 1 then rwq (Y 2) 12 (fun q => some (u (4 + q)))
  else if r = 2 then rwq (Y 4) 4 (fun q => some (u (16 + q)))
  else if r = 3 then .inl (Y 1, 3, .inl (mStat 0))
  else if r < 16 then .inr (2, vSeg0) else .inr (4, vTr0)
def stU (h a1 a2 a3 : Nat) (g1 g2 : Nat → Nat) : Nat → Nat := fun r => if r = 0 then h else if r = 1 then a1 else if r = 2 then a2 else if r = 3 then a3 else if r < 16 then g1 (r - 4) else g2 (r - 16)
def stP (r : Nat) : Nat := if r = 0 then 0 else if r = 1 then 1 else if r = 2 then 14 else if r = 3 then 19 else if r < 16 then r - 2 else r - 1
theorem stP_inj : ∀ a : Fin 20, ∀ b : Fin 20, stP a.1 = stP b.1 → a.1 = b.1 := by decide
/-- twenty cells of a new State, out of the list -/
def stOk (D : va_G) (Y : Nat → ClassId) (A : Nat → Prop) (u : Nat → Nat) (H : Heap) : Prop := (∀ r, r < 20 → va_at D vwCl (u r, scell Y u r) H) ∧ (∀ r r', r < 20 → r' < 20 → u r = u r' → r = r') ∧ ∀ r, r < 20 → A (u r)
theorem stOk_of {D : va_G} {Y : Nat → ClassId} {A : Nat → Prop} {h a1 a2 a3 : Nat} {g1 g2 : Nat → Nat} {w : Nat → Int32} {H : Heap} (hw : ∀ j, j < 3 → w j = mStat 0 j)
    (hP : va_P D vwCl ((([(h, Sum.inr (3, vSt0 (.ref a1) (.ref a2) (.ref a3)))] ++ ((a1, rwq (Y 2) 12 (upto 12 0 g1)) :: tailW 0 (.inr (2, vSeg0)) g1 12)) ++ ((a2, rwq (Y 4) 4 (upto 4 0 g2)) :: tailW 0 (.inr (4, vTr0)) g2 4)) ++ ((a3, .inl (Y 1, 3, .inl w)) :: [])) H)
    (hD : va_D A ((([(h, Sum.inr (3, vSt0 (.ref a1) (.ref a2) (.ref a3)))] ++ ((a1, rwq (Y 2) 12 (upto 12 0 g1)) :: tailW 0 (.inr (2, vSeg0)) g1 12)) ++ ((a2, rwq (Y 4) 4 (upto 4 0 g2)) :: tailW 0 (.inr (4, vTr0)) g2 4)) ++ ((a3, .inl (Y 1, 3, .inl w)) :: []))) : stOk D Y A (stU h a1 a2 a3 g1 g2) H := by
  obtain ⟨P1, hP1⟩ : ∃ P1 : va_W, P1 = [(h, Sum.inr (3, vSt0 (.ref a1) (.ref a2) (.ref a3)))] := ⟨_, rfl⟩
  have l1 : P1.length = 1 := by rw [hP1]; rfl
  have p0 : P1[0]? = some (h, Sum.inr (3, vSt0 (.ref a1) (.ref a2) (.ref a3))) := by rw [hP1]; rfl
  rw [← hP1] at hP hD
  obtain ⟨T1, hT1⟩ : ∃ T1 : va_W, T1 = tailW 0 (.inr (2, vSeg0)) g1 12 := ⟨_, rfl⟩
  have t1 : ∀ s, s < 12 → T1[s]? = some (g1 s, .inr (2, vSeg0)) := fun s hs => by rw [hT1, tailW_at hs, Nat.zero_add]
  have lt1 : T1.length = 12 := by rw [hT1, tailW_len]
  rw [← hT1] at hP hD
  obtain ⟨T2, hT2⟩ : ∃ T2 : va_W, T2 = tailW 0 (.inr (4, vTr0)) g2 4 := ⟨_, rfl⟩
  have t2 : ∀ s, s < 4 → T2[s]? = some (g2 s, .inr (4, vTr0)) := fun s hs => by rw [hT2, tailW_at hs, Nat.zero_add]
  have lt2 : T2.length = 4 := by rw [hT2, tailW_len]
  rw [← hT2] at hP hD
  have l2 : (P1 ++ ((a1, rwq (Y 2) 12 (upto 12 0 g1)) :: T1)).length = 14 := by rw [List.length_append, List.length_cons, l1, lt1]
  have l3 : ((P1 ++ ((a1, rwq (Y 2) 12 (upto 12 0 g1)) :: T1)) ++ ((a2, rwq (Y 4) 4 (upto 4 0 g2)) :: T2)).length = 19 := by rw [List.length_append, List.length_cons, l2, lt2]
  obtain ⟨P2, hP2⟩ : ∃ P2 : va_W, P2 = P1 ++ ((a1, rwq (Y 2) 12 (upto 12 0 g1)) :: T1) := ⟨_, rfl⟩
  have q0 : P2[0]? = some (h, Sum.inr (3, vSt0 (.ref a1) (.ref a2) (.ref a3))) := by rw [hP2]; exact mid_pre p0
  have q1 : P2[1]? = some (a1, rwq (Y 2) 12 (upto 12 0 g1)) := by rw [hP2, ← l1]; exact mid_at
  have q2 : ∀ s, s < 12 → P2[2 + s]? = some (g1 s, .inr (2, vSeg0)) := fun s hs => by
    have := mid_in (P := P1) (x := (a1, rwq (Y 2) 12 (upto 12 0 g1))) (t1 s hs)
    rw [l1] at this
    rw [hP2]; exact this
  rw [← hP2] at hP hD l2 l3
  obtain ⟨P3, hP3⟩ : ∃ P3 : va_W, P3 = P2 ++ ((a2, rwq (Y 4) 4 (upto 4 0 g2)) :: T2) := ⟨_, rfl⟩
  have r0 : ∀ {i : Nat} {y : Nat × va_E}, P2[i]? = some y → P3[i]? = some y := fun hy => by rw [hP3]; exact mid_pre hy
  have r1 : P3[14]? = some (a2, rwq (Y 4) 4 (upto 4 0 g2)) := by rw [hP3, ← l2]; exact mid_at
  have r2 : ∀ s, s < 4 → P3[15 + s]? = some (g2 s, .inr (4, vTr0)) := fun s hs => by
    have := mid_in (P := P2) (x := (a2, rwq (Y 4) 4 (upto 4 0 g2))) (t2 s hs)
    rw [l2] at this
    rw [hP3]; exact this
  rw [← hP3] at hP hD l3
  obtain ⟨ws, hws⟩ : ∃ ws : va_W, ws = P3 ++ ((a3, .inl (Y 1, 3, .inl w)) :: []) := ⟨_, rfl⟩
  have s0 : ∀ {i : Nat} {y : Nat × va_E}, P3[i]? = some y → ws[i]? = some y := fun hy => by rw [hws]; exact mid_pre hy
  have s1 : ws[19]? = some (a3, .inl (Y 1, 3, .inl w)) := by rw [hws, ← l3]; exact mid_at
  rw [← hws] at hP hD
  have key : ∀ r, r < 20 → ∃ e, ws[stP r]? = some (stU h a1 a2 a3 g1 g2 r, e) ∧ (va_at D vwCl (stU h a1 a2 a3 g1 g2 r, e) H → va_at D vwCl (stU h a1 a2 a3 g1 g2 r, scell Y (stU h a1 a2 a3 g1 g2) r) H) := by
    intro r hr
    by_cases e0 : r = 0
    · subst e0
      exact ⟨_, s0 (r0 q0), fun z => z⟩
    · by_cases e1 : r = 1
      · subst e1
        refine ⟨_, s0 (r0 q1), fun z => rwq_eq (fun j hj => ?_) z⟩
        unfold upto
        rw [if_pos hj, Nat.zero_add]
        unfold stU
        rw [if_neg (by omega), if_neg (by omega), if_neg (by omega), if_neg (by omega), if_pos (by omega), Nat.add_sub_cancel_left]
      · by_cases e2 : r = 2
        · subst e2
          refine ⟨_, s0 r1, fun z => rwq_eq (fun j hj => ?_) z⟩
          unfold upto
          rw [if_pos hj, Nat.zero_add]
          unfold stU
          rw [if_neg (by omega), if_neg (by omega), if_neg (by omega), if_neg (by omega), if_neg (by omega), Nat.add_sub_cancel_left]
        · by_cases e3 : r = 3
          · subst e3
            exact ⟨_, s1, fun z => rwi_eq hw z⟩
          · by_cases e4 : r < 16
            · refine ⟨.inr (2, vSeg0), ?_, fun z => ?_⟩
              · unfold stP stU
                rw [if_neg e0, if_neg e1, if_neg e2, if_neg e3, if_pos e4, if_neg e0, if_neg e1, if_neg e2, if_neg e3, if_pos e4, show r - 2 = 2 + (r - 4) by omega]
                exact s0 (r0 (q2 (r - 4) (by omega)))
              · unfold scell
                rw [if_neg e0, if_neg e1, if_neg e2, if_neg e3, if_pos e4]
                exact z
            · refine ⟨.inr (4, vTr0), ?_, fun z => ?_⟩
              · unfold stP stU
                rw [if_neg e0, if_neg e1, if_neg e2, if_neg e3, if_neg e4, if_neg e0, if_neg e1, if_neg e2, if_neg e3, if_neg e4, show r - 1 = 15 + (r - 16) by omega]
                exact s0 (r2 (r - 16) (by omega))
              · unfold scell
                rw [if_neg e0, if_neg e1, if_neg e2, if_neg e3, if_neg e4]
                exact z
  refine ⟨fun r hr => ?_, fun r r' hr hr' he => ?_, fun r hr => ?_⟩
  · obtain ⟨e, k1, k2⟩ := key r hr
    exact k2 (hP _ _ k1)
  · obtain ⟨e, k1, -⟩ := key r hr
    obtain ⟨e', k1', -⟩ := key r' hr'
    exact stP_inj ⟨r, hr⟩ ⟨r', hr'⟩ (hD.1 _ _ _ _ k1 k1' he)
  · obtain ⟨e, k1, -⟩ := key r hr
    exact hD.2 _ _ k1
