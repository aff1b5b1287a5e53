/-! the text constant at the start -/
def tb0 : List (List Int32) := [[48, 112, 44, 52, 44, 52, 44, 50, 112, 44, 52, 44, 52, 44, 48, 112]]
theorem sT_of {args : Array Value} {s : State} (hts : ∀ w ∈ lw_tbl, w.before args s = true) (hg : (Jvm.Cond.and given_1 narrow_1).before args s = true) {A : Nat → Prop} (hA : ∀ a : Nat, a < s.heap.size → ¬ A a) : ∃ aK aV, sT aK aV A s s.heap ∧ vk_R RX5 12 "0p,4,4,2p,4,4,0p" aK s := by
  have hs := flat_of_before _ hg
  have hi0 : (Cond.initialized "java/lang/String").before args s = true := hts _ (List.mem_append_right _ (List.mem_of_getElem? (i := 3) (by decide +kernel)))
  have hi1 : (Cond.initialized "jdk/internal/util/Preconditions").before args s = true := hts _ (List.mem_append_right _ (List.mem_of_getElem? (i := 5) (by decide +kernel)))
  have hsr : (Cond.stringRef RX5 12 "0p,4,4,2p,4,4,0p").before args s = true := hts _ (List.mem_append_right _ (List.mem_of_getElem? (i := 34) (by decide +kernel)))
  have hl0 : (Cond.laysStatic "java/lang/String" "COMPACT_STRINGS" "Z").before args s = true := hts _ (List.mem_append_right _ (List.mem_of_getElem? (i := 44) (by decide +kernel)))
  have hl1 : (Cond.laysStatic "jdk/internal/util/Preconditions" "SIOOBE_FORMATTER" "Ljava/util/function/BiFunction;").before args s = true := hts _ (List.mem_append_right _ (List.mem_of_getElem? (i := 60) (by decide +kernel)))
  obtain ⟨adK, adV, ⟨h1, -⟩, h2⟩ := vk_Sof (args := args) (s := s) (N := 1) (tm := fun _ => .string "PeatRailway" 12) (len := [16]) (byt := tb0) (A := A) (fun i hi => by rw [show i = 0 by omega]; decide) (fun i _ => hs _ (by decide +kernel)) (fun i _ => hs _ (by decide +kernel)) (fun i _ => hs _ (by decide +kernel)) (fun i hi => by rw [show i = 0 by omega]; exact hs _ (by decide +kernel)) (fun i hi j hj => by
    have e : i = 0 := by omega
    subst e
    have hj : j < 16 := hj
    rcases (show j = 0 ∨ j = 1 ∨ j = 2 ∨ j = 3 ∨ j = 4 ∨ j = 5 ∨ j = 6 ∨ j = 7 ∨ j = 8 ∨ j = 9 ∨ j = 10 ∨ j = 11 ∨ j = 12 ∨ j = 13 ∨ j = 14 ∨ j = 15 by omega) with rfl | rfl | rfl | rfl | rfl | rfl | rfl | rfl | rfl | rfl | rfl | rfl | rfl | rfl | rfl | rfl
    · exact hs _ (by decide +kernel)
    · exact hs _ (by decide +kernel)
    · exact hs _ (by decide +kernel)
    · exact hs _ (by decide +kernel)
    · exact hs _ (by decide +kernel)
    · exact hs _ (by decide +kernel)
    · exact hs _ (by decide +kernel)
    · exact hs _ (by decide +kernel)
    · exact hs _ (by decide +kernel)
    · exact hs _ (by decide +kernel)
    · exact hs _ (by decide +kernel)
    · exact hs _ (by decide +kernel)
    · exact hs _ (by decide +kernel)
    · exact hs _ (by decide +kernel)
    · exact hs _ (by decide +kernel)
    · exact hs _ (by decide +kernel)) (fun i j hi hj hij => absurd (by omega) hij) hA
  obtain ⟨k1, k2, k3, k4⟩ := h1 0 (by decide)
  refine ⟨adK 0, adV 0, ⟨k1, k2, k3, k4, va_Zof hl0 hi0 (va_eqt (hs _ (by decide +kernel))) hA, va_Zqof hl1 hi1 (hs _ (by decide +kernel)) hA⟩, vk_R.of hsr (h2 0 (by decide))⟩
