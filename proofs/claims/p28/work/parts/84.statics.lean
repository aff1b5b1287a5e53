/-! the static rows at the start -/
theorem sS_of {args : Array Value} {s : State} (hts : ∀ w ∈ lw_tbl, w.before args s = true) (hg : (Jvm.Cond.and given_1 narrow_1).before args s = true) {A : Nat → Prop} (hA : ∀ a : Nat, a < s.heap.size → ¬ A a) : sS A s s.heap := by
  have hs := flat_of_before _ hg
  have hini : (Cond.initialized "PeatRailway").before args s = true := hts _ (List.mem_append_right _ (List.mem_of_getElem? (i := 1) (by decide +kernel)))
  intro i hi
  rcases (show i = 0 ∨ i = 1 ∨ i = 2 by omega) with rfl | rfl | rfl
  · obtain ⟨t, h1, h2⟩ := va_Tof (tm := .static "PeatRailway" "FIRST_VALUE" "[I") (ty := .int) (N := 3) (f := fun j => .int (mStat 0 j)) (A := A) (by decide) (hs _ (by decide +kernel)) (va_eqt (hs _ (by decide +kernel))) (fun j hj => by
      rcases (show j = 0 ∨ j = 1 ∨ j = 2 by omega) with rfl | rfl | rfl
      · exact va_eqt (hs _ (by decide +kernel))
      · exact va_eqt (hs _ (by decide +kernel))
      · exact va_eqt (hs _ (by decide +kernel))) hA
    exact ⟨t, va_Zof (hts (.laysStatic "PeatRailway" "FIRST_VALUE" "[I") (List.mem_append_right _ (List.mem_of_getElem? (i := 184) (by decide +kernel)))) hini h1 hA, h2⟩
  · obtain ⟨t, h1, h2⟩ := va_Tof (tm := .static "PeatRailway" "LEAST_VALUE" "[I") (ty := .int) (N := 3) (f := fun j => .int (mStat 1 j)) (A := A) (by decide) (hs _ (by decide +kernel)) (va_eqt (hs _ (by decide +kernel))) (fun j hj => by
      rcases (show j = 0 ∨ j = 1 ∨ j = 2 by omega) with rfl | rfl | rfl
      · exact va_eqt (hs _ (by decide +kernel))
      · exact va_eqt (hs _ (by decide +kernel))
      · exact va_eqt (hs _ (by decide +kernel))) hA
    exact ⟨t, va_Zof (hts (.laysStatic "PeatRailway" "LEAST_VALUE" "[I") (List.mem_append_right _ (List.mem_of_getElem? (i := 561) (by decide +kernel)))) hini h1 hA, h2⟩
  · obtain ⟨t, h1, h2⟩ := va_Tof (tm := .static "PeatRailway" "MOST_VALUE" "[I") (ty := .int) (N := 3) (f := fun j => .int (mStat 2 j)) (A := A) (by decide) (hs _ (by decide +kernel)) (va_eqt (hs _ (by decide +kernel))) (fun j hj => by
      rcases (show j = 0 ∨ j = 1 ∨ j = 2 by omega) with rfl | rfl | rfl
      · exact va_eqt (hs _ (by decide +kernel))
      · exact va_eqt (hs _ (by decide +kernel))
      · exact va_eqt (hs _ (by decide +kernel))) hA
    exact ⟨t, va_Zof (hts (.laysStatic "PeatRailway" "MOST_VALUE" "[I") (List.mem_append_right _ (List.mem_of_getElem? (i := 563) (by decide +kernel)))) hini h1 hA, h2⟩
