/-! the array classes at the start -/
theorem cls_obj {C : String} {s : State} (h : va_AO C s) : ∃ cA, ArrOfT s cA (.object C) ∧ va_RA s cA (.object C) := by
  obtain ⟨comp, c, k, h1, h2, h3, h4, h5⟩ := Cond.arrayOver_spec h
  exact ⟨c, fun N z => ⟨(fun k h => by cases h), k, h3, comp, h4⟩, k, comp, h3, h4, h1, h5⟩
theorem cls_int {args : Array Value} {s : State} (h : (Cond.arrayClass .int).before args s = true) : ∃ cA, ArrOfT s cA .int ∧ va_RA s cA .int := by
  obtain ⟨c, k, comp, h1, h2, h3⟩ := Cond.arrayClass_spec h
  exact ⟨c, fun N z => ⟨(fun k h => by cases h), k, h2, comp, h3⟩, h1⟩
theorem cls_char {args : Array Value} {s : State} (h : (Cond.arrayClass .char).before args s = true) : ∃ cA, ArrOfT s cA .char ∧ va_RA s cA .char := by
  obtain ⟨c, k, comp, h1, h2, h3⟩ := Cond.arrayClass_spec h
  exact ⟨c, fun N z => ⟨(fun k h => by cases h), k, h2, comp, h3⟩, h1⟩
/-- one choice of them all -/
theorem cls_all {args : Array Value} {s : State} (hts : ∀ w ∈ wsL_law, w.before args s = true) (hG : nG s) : ∃ Y : Nat → ClassId, ∀ (k : Nat) (q : ClassId × FieldType), (mtY Y)[k]? = some q → ArrOfT s q.1 q.2 ∧ va_RA s q.1 q.2 := by
  obtain ⟨c0, a0⟩ := cls_char (hts _ wd_2_5)
  obtain ⟨c1, a1⟩ := cls_int (hts _ wd_1_3)
  obtain ⟨c2, a2⟩ := cls_obj hG.2.2.2.1
  obtain ⟨c3, a3⟩ := cls_obj hG.2.2.2.2.1
  obtain ⟨c4, a4⟩ := cls_obj hG.2.2.2.2.2
  refine ⟨fun k => if k = 0 then c0 else if k = 1 then c1 else if k = 2 then c2 else if k = 3 then c3 else c4, fun k q hk => ?_⟩
  have hl : k < 5 := (List.getElem?_eq_some_iff.mp hk).1
  rcases (show k = 0 ∨ k = 1 ∨ k = 2 ∨ k = 3 ∨ k = 4 by omega) with rfl | rfl | rfl | rfl | rfl <;> cases hk
  · exact a0
  · exact a1
  · exact a2
  · exact a3
  · exact a4
