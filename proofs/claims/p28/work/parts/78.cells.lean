/-! CELLS in the order of their making -/
def cOk (D : va_G) (A : Nat → Prop) (N : Nat) (ad : Nat → Nat) (cn : Nat → va_E) (H : Heap) : Prop := (∀ r, r < N → va_at D vwCl (ad r, cn r) H) ∧ (∀ r r', r < N → r' < N → ad r = ad r' → r = r') ∧ ∀ r, r < N → A (ad r)
def tl (N : Nat) (ad : Nat → Nat) (cn : Nat → va_E) : va_W := (List.range N).map (fun r => (ad r, cn r))
theorem tl_at {N r : Nat} {ad : Nat → Nat} {cn : Nat → va_E} (h : r < N) : (tl N ad cn)[r]? = some (ad r, cn r) := by
  unfold tl
  rw [List.getElem?_map, List.getElem?_range h]
  rfl
theorem tl_of {N k : Nat} {ad : Nat → Nat} {cn : Nat → va_E} {q : Nat × va_E} (h : (tl N ad cn)[k]? = some q) : k < N ∧ q = (ad k, cn k) := by
  have hk : k < N := by
    have := (List.getElem?_eq_some_iff.mp h).1
    unfold tl at this
    rwa [List.length_map, List.length_range] at this
  rw [tl_at hk] at h
  exact ⟨hk, (Option.some.inj h).symm⟩
theorem tl_len (N : Nat) (ad : Nat → Nat) (cn : Nat → va_E) : (tl N ad cn).length = N := by unfold tl; rw [List.length_map, List.length_range]
theorem cOk.P {D : va_G} {A : Nat → Prop} {N : Nat} {ad : Nat → Nat} {cn : Nat → va_E} {H : Heap} (h : cOk D A N ad cn H) : va_P D vwCl (tl N ad cn) H := fun k q hk => by
  obtain ⟨h1, rfl⟩ := tl_of hk
  exact h.1 k h1
theorem cOk.D {D : va_G} {A : Nat → Prop} {N : Nat} {ad : Nat → Nat} {cn : Nat → va_E} {H : Heap} (h : cOk D A N ad cn H) : va_D A (tl N ad cn) := by
  refine ⟨fun i j p q hi hj he => ?_, fun k q hk => ?_⟩
  · obtain ⟨h1, rfl⟩ := tl_of hi
    obtain ⟨h2, rfl⟩ := tl_of hj
    exact h.2.1 i j h1 h2 he
  · obtain ⟨h1, rfl⟩ := tl_of hk
    exact h.2.2 k h1
/-- one more cell -/
theorem cOk.push {D : va_G} {A : Nat → Prop} {N q : Nat} {ad : Nat → Nat} {cn : Nat → va_E} {e : va_E} {H : Heap} (hP : va_P D vwCl (tl N ad cn ++ [(q, e)]) H) (hD : va_D A (tl N ad cn ++ [(q, e)])) : cOk D A (N + 1) (fset ad N q) (fun r => if r = N then e else cn r) H := by
  have key : ∀ r, r < N + 1 → (tl N ad cn ++ [(q, e)])[r]? = some (fset ad N q r, if r = N then e else cn r) := fun r hr => by
    by_cases h : r = N
    · subst h
      rw [fset_s, if_pos rfl, List.getElem?_append_right (by rw [tl_len]; exact Nat.le_refl _), tl_len, Nat.sub_self]
      rfl
    · rw [fset_n h, if_neg h, List.getElem?_append_left (by rw [tl_len]; omega), tl_at (by omega)]
  exact ⟨fun r hr => hP _ _ (key r hr), fun r r' hr hr' he => hD.1 _ _ _ _ (key r hr) (key r' hr') he, fun r hr => hD.2 _ _ (key r hr)⟩
/-- a cell's contents anew -/
theorem cOk.set {D : va_G} {A : Nat → Prop} {N k : Nat} {ad : Nat → Nat} {cn : Nat → va_E} {e : va_E} {H : Heap} (hk : k < N) (hP : va_P D vwCl ((tl N ad cn).set k (ad k, e)) H) (hD : va_D A ((tl N ad cn).set k (ad k, e))) : cOk D A N ad (fun r => if r = k then e else cn r) H := by
  have key : ∀ r, r < N → ((tl N ad cn).set k (ad k, e))[r]? = some (ad r, if r = k then e else cn r) := fun r hr => by
    by_cases h : r = k
    · subst h
      rw [if_pos rfl, List.getElem?_set_self (by rw [tl_len]; exact hr)]
    · rw [if_neg h, List.getElem?_set_ne (Ne.symm h), tl_at hr]
  exact ⟨fun r hr => hP _ _ (key r hr), fun r r' hr hr' he => hD.1 _ _ _ _ (key r hr) (key r' hr') he, fun r hr => hD.2 _ _ (key r hr)⟩
theorem cOk.cn {D : va_G} {A : Nat → Prop} {N : Nat} {ad ad' : Nat → Nat} {cn cn' : Nat → va_E} {H : Heap} (h : cOk D A N ad cn H) (ha : ∀ r, r < N → ad' r = ad r) (hc : ∀ r, r < N → va_at D vwCl (ad r, cn r) H → va_at D vwCl (ad r, cn' r) H) : cOk D A N ad' cn' H :=
  ⟨fun r hr => by rw [ha r hr]; exact hc r hr (h.1 r hr), fun r r' hr hr' he => h.2.1 r r' hr hr' (by rw [← ha r hr, ← ha r' hr']; exact he), fun r hr => by rw [ha r hr]; exact h.2.2 r hr⟩
theorem cOk.kept {D : va_G} {A : Nat → Prop} {N : Nat} {ad : Nat → Nat} {cn : Nat → va_E} {H H1 : Heap} (h : cOk D A N ad cn H) (hk : ∀ q : Nat, q < H.size → H1[q]? = H[q]?) : cOk D A N ad cn H1 :=
  ⟨fun r hr => (h.1 r hr).kept (hk _ (h.1 r hr).lt), h.2⟩
/-- where the cells of a State are that was made as the cells N .. N + 19 -/
def stAd (ad : Nat → Nat) (N : Nat) (u : Nat → Nat) : Nat → Nat := fun r => if r < N then ad r else u (r - N)
theorem cOk.state {D : va_G} {Y : Nat → ClassId} {A : Nat → Prop} {N : Nat} {ad u : Nat → Nat} {cn : Nat → va_E} {e : va_E} {H H1 : Heap} (h : cOk D A (N + 1) ad cn H) (hA : ∀ q : Nat, H.size ≤ q → A q) (hu : u 0 = ad N) (hs : stOk D Y (va_A [(ad N, e)] H.size) u H1) (hk : ∀ q : Nat, q < H.size → ¬ va_A [(ad N, e)] H.size q → H1[q]? = H[q]?) : cOk D A (N + 20) (stAd ad N u) (fun r => if r < N then cn r else scell Y u (r - N)) H1 := by
  obtain ⟨h1, h2, h3⟩ := h
  obtain ⟨s1, s2, s3⟩ := hs
  have hin : ∀ q, va_A [(ad N, e)] H.size q → q = ad N ∨ H.size ≤ q := fun q hq => by
    rcases hq with ⟨k, e', hk⟩ | hq
    · have hz : k < 1 := (List.getElem?_eq_some_iff.mp hk).1
      rw [show k = 0 by omega] at hk
      cases hk
      exact Or.inl rfl
    · exact Or.inr hq
  have hold : ∀ r, r < N → ad r < H.size ∧ ¬ va_A [(ad N, e)] H.size (ad r) := fun r hr => by
    have hl : ad r < H.size := (h1 r (by omega)).lt
    refine ⟨hl, fun z => ?_⟩
    rcases hin _ z with q | q
    · have := h2 r N (by omega) (by omega) q; omega
    · omega
  have hnew : ∀ r r', r < N → r' < 20 → ad r ≠ u r' := fun r r' hr hr' he => (hold r hr).2 (by rw [he]; exact s3 r' hr')
  refine ⟨fun r hr => ?_, fun r r' hr hr' he => ?_, fun r hr => ?_⟩
  · unfold stAd
    dsimp only
    by_cases e1 : r < N
    · rw [if_pos e1, if_pos e1]
      exact (h1 r (by omega)).kept (hk _ (hold r e1).1 (hold r e1).2)
    · rw [if_neg e1, if_neg e1]
      exact s1 (r - N) (by omega)
  · unfold stAd at he
    by_cases e1 : r < N
    · rw [if_pos e1] at he
      by_cases e2 : r' < N
      · rw [if_pos e2] at he
        exact h2 r r' (by omega) (by omega) he
      · rw [if_neg e2] at he
        exact absurd he (hnew r (r' - N) e1 (by omega))
    · rw [if_neg e1] at he
      by_cases e2 : r' < N
      · rw [if_pos e2] at he
        exact absurd he.symm (hnew r' (r - N) e2 (by omega))
      · rw [if_neg e2] at he
        have := s2 (r - N) (r' - N) (by omega) (by omega) he
        omega
  · unfold stAd
    by_cases e1 : r < N
    · rw [if_pos e1]; exact h3 r (by omega)
    · rw [if_neg e1]
      rcases hin _ (s3 (r - N) (by omega)) with q | q
      · rw [q]; exact h3 N (by omega)
      · exact hA _ q
