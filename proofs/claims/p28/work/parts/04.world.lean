/-! THE WORLD: every cell of the class and of the reference has a number; what all of them hold is one function G of the number and the place. -/
abbrev mM : Type := Nat → Nat → Int32
def up2 (G : mM) (c k : Nat) (v : Int32) : mM := fun c' k' => if c' = c ∧ k' = k then v else G c' k'
theorem up2_same (G : mM) (c k : Nat) (v : Int32) : up2 G c k v c k = v := by simp [up2]
theorem up2_ne {G : mM} {c k c' k' : Nat} {v : Int32} (h : c' ≠ c ∨ k' ≠ k) : up2 G c k v c' k' = G c' k' := by
  unfold up2
  rw [if_neg]
  rintro ⟨h1, h2⟩
  rcases h with h | h
  · exact h h1
  · exact h h2
theorem up2_row (G : mM) (c k : Nat) (v : Int32) : up2 G c k v c = upd (G c) k v := by
  funext j
  unfold up2 upd
  by_cases h : j = k <;> simp [h]
theorem up2_other {G : mM} {c k c' : Nat} {v : Int32} (h : c' ≠ c) : up2 G c k v c' = G c' := by
  funext j
  exact up2_ne (Or.inl h)
/-- array classes, addresses, the cells that are there -/
abbrev mE : Type := va_G × (Nat → ClassId) × (Nat → Nat) × List Nat
abbrev mY (E : mE) : Nat → ClassId := E.2.1
abbrev mad (E : mE) : Nat → Nat := E.2.2.1
abbrev mI (E : mE) : List Nat := E.2.2.2
abbrev mtys (E : mE) : List (ClassId × FieldType) := [(mY E 0, .char), (mY E 1, .int), (mY E 2, .object "PeatRailway$Segment"), (mY E 3, .object "PeatRailway$State"), (mY E 4, .object "PeatRailway$Train")]
def f_Seg (G : mM) (c : Nat) : List Value := [.int (G c 0), .int (G c 1), .int (G c 2), .int (G c 3), .int (G c 4), .int (G c 5)]
def f_Tr (G : mM) (c : Nat) : List Value := [.int (G c 0), .int (G c 1), .int (G c 2), .int (G c 3), .int (G c 4), .int (G c 5), .int (G c 6), .int (G c 7), .int (G c 8), .int (G c 9)]
def f_St (ad : Nat → Nat) (G : mM) (c : Nat) : List Value := [.ref (ad (c + 1)), .ref (ad (c + 2)), .ref (ad (c + 3)), .int (G c 3), .int (G c 4), .int (G c 5), .int (G c 6), .int (G c 7), .int (G c 8), .int (G c 9), .int (G c 10)]
def f_Ra (ad : Nat → Nat) (G : mM) (c : Nat) : List Value := [.ref (ad 241), .ref (ad 0), .ref (ad 20), .ref (ad 243), .ref (ad 245), .int (G c 5)]
def f_Tx (ad : Nat → Nat) (G : mM) (c : Nat) : List Value := [.ref (ad 242), .int (G c 1)]
def f_Hi (ad : Nat → Nat) (G : mM) (c : Nat) : List Value := [.ref (ad 244), .int (G c 1)]
/-- the law's rows: their lengths -/
def mLn (c : Nat) : Nat := if c % 3 = 0 then 10 else if c % 3 = 1 then 24 else 40
def mcell (E : mE) (G : mM) (c : Nat) : va_E :=
  if c < 240 then
    if c % 20 = 0 then .inr (3, f_St (mad E) G c)
    else if c % 20 = 1 then .inl (mY E 2, 12, .inr (.inr (.inr (.inr (fun q => some (mad E (c + 3 + q)))))))
    else if c % 20 = 2 then .inl (mY E 4, 4, .inr (.inr (.inr (.inr (fun q => some (mad E (c + 14 + q)))))))
    else if c % 20 = 3 then .inl (mY E 1, 3, .inl (G c))
    else if c % 20 < 16 then .inr (2, f_Seg G c)
    else .inr (4, f_Tr G c)
  else if c = 240 then .inr (5, f_Ra (mad E) G c)
  else if c = 241 then .inr (1, f_Tx (mad E) G c)
  else if c = 242 then .inl (mY E 0, 40, .inl (G c))
  else if c = 243 then .inr (0, f_Hi (mad E) G c)
  else if c = 244 then .inl (mY E 3, 8, .inr (.inr (.inr (.inr (fun q => some (mad E (G c q).toNatClampNeg))))))
  else if c = 245 then .inl (mY E 3, 2, .inr (.inr (.inr (.inr (fun q => some (mad E (200 + 20 * q)))))))
  else .inl (mY E 1, mLn c, .inl (G c))
theorem mcell_cong {E : mE} {G G' : mM} {c : Nat} (h : G c = G' c) : mcell E G c = mcell E G' c := by
  unfold mcell f_St f_Seg f_Tr f_Ra f_Tx f_Hi
  rw [h]
/-- the kinds of the cells' numbers -/
def mSt (E : mE) (c : Nat) : Prop := c < 240 ∧ c % 20 = 0 ∧ ∀ r, r < 20 → c + r ∈ mI E
def mSg (E : mE) (c : Nat) : Prop := c < 240 ∧ 4 ≤ c % 20 ∧ c % 20 < 16 ∧ c ∈ mI E
def mTr (E : mE) (c : Nat) : Prop := c < 240 ∧ 16 ≤ c % 20 ∧ c ∈ mI E
def mTx (E : mE) (c : Nat) : Prop := c = 241 ∧ 241 ∈ mI E ∧ 242 ∈ mI E
def mAl (E : mE) (c : Nat) : Prop := c = 240 ∧ ∀ r, r < 246 → r ∈ mI E
def mHi (E : mE) (c : Nat) : Prop := c = 243 ∧ ∀ r, r < 246 → r ∈ mI E
theorem mSt.i {E : mE} {c : Nat} (h : mSt E c) : c ∈ mI E := h.2.2 0 (by decide)
theorem mSg.i {E : mE} {c : Nat} (h : mSg E c) : c ∈ mI E := h.2.2.2
theorem mTr.i {E : mE} {c : Nat} (h : mTr E c) : c ∈ mI E := h.2.2
theorem mTx.i {E : mE} {c : Nat} (h : mTx E c) : c ∈ mI E := by rw [h.1]; exact h.2.1
theorem mAl.i {E : mE} {c : Nat} (h : mAl E c) : c ∈ mI E := by rw [h.1]; exact h.2 240 (by decide)
theorem mHi.i {E : mE} {c : Nat} (h : mHi E c) : c ∈ mI E := by rw [h.1]; exact h.2 243 (by decide)
theorem mSt.c {E : mE} {c : Nat} (h : mSt E c) (G : mM) : mcell E G c = .inr (3, f_St (mad E) G c) := by
  unfold mcell; rw [if_pos h.1, if_pos h.2.1]
theorem mSg.c {E : mE} {c : Nat} (h : mSg E c) (G : mM) : mcell E G c = .inr (2, f_Seg G c) := by
  obtain ⟨h1, h2, h3, -⟩ := h
  unfold mcell; rw [if_pos h1, if_neg (by omega), if_neg (by omega), if_neg (by omega), if_neg (by omega), if_pos h3]
theorem mTr.c {E : mE} {c : Nat} (h : mTr E c) (G : mM) : mcell E G c = .inr (4, f_Tr G c) := by
  obtain ⟨h1, h2, -⟩ := h
  unfold mcell; rw [if_pos h1, if_neg (by omega), if_neg (by omega), if_neg (by omega), if_neg (by omega), if_neg (by omega)]
theorem mTx.c {E : mE} {c : Nat} (h : mTx E c) (G : mM) : mcell E G c = .inr (1, f_Tx (mad E) G c) := by
  obtain ⟨rfl, -⟩ := h; rfl
theorem mAl.c {E : mE} {c : Nat} (h : mAl E c) (G : mM) : mcell E G c = .inr (5, f_Ra (mad E) G c) := by
  obtain ⟨rfl, -⟩ := h; rfl
theorem mHi.c {E : mE} {c : Nat} (h : mHi E c) (G : mM) : mcell E G c = .inr (0, f_Hi (mad E) G c) := by
  obtain ⟨rfl, -⟩ := h; rfl
/-- arrays: the number of the row's cell, what it holds -/
def mAi (E : mE) (a t n : Nat) : Prop := a ∈ mI E ∧ ∀ G : mM, mcell E G a = .inl (mY E t, n, .inl (G a))
def mAr (E : mE) (a t n : Nat) (f : mM → Nat → Nat) : Prop := a ∈ mI E ∧ ∀ G : mM, mcell E G a = .inl (mY E t, n, .inr (.inr (.inr (.inr (fun q => some (mad E (f G q)))))))
theorem mSt.segs {E : mE} {c : Nat} (h : mSt E c) : mAr E (c + 1) 2 12 (fun _ q => c + 4 + q) := by
  obtain ⟨h1, h2, h3⟩ := h
  refine ⟨h3 1 (by decide), fun G => ?_⟩
  unfold mcell
  rw [if_pos (by omega), if_neg (by omega), if_pos (by omega)]
theorem mSt.trs {E : mE} {c : Nat} (h : mSt E c) : mAr E (c + 2) 4 4 (fun _ q => c + 16 + q) := by
  obtain ⟨h1, h2, h3⟩ := h
  refine ⟨h3 2 (by decide), fun G => ?_⟩
  unfold mcell
  rw [if_pos (by omega), if_neg (by omega), if_neg (by omega), if_pos (by omega)]
theorem mSt.sets {E : mE} {c : Nat} (h : mSt E c) : mAi E (c + 3) 1 3 := by
  obtain ⟨h1, h2, h3⟩ := h
  refine ⟨h3 3 (by decide), fun G => ?_⟩
  unfold mcell
  rw [if_pos (by omega), if_neg (by omega), if_neg (by omega), if_neg (by omega), if_pos (by omega)]
theorem mTx.signs {E : mE} {c : Nat} (h : mTx E c) : mAi E 242 0 40 := ⟨h.2.2, fun _ => rfl⟩
theorem mHi.states {E : mE} {c : Nat} (h : mHi E c) : mAr E 244 3 8 (fun G q => (G 244 q).toNatClampNeg) := ⟨h.2 244 (by decide), fun _ => rfl⟩
theorem mAl.images {E : mE} {c : Nat} (h : mAl E c) : mAr E 245 3 2 (fun _ q => 200 + 20 * q) := ⟨h.2 245 (by decide), fun _ => rfl⟩
theorem mSt.seg {E : mE} {c : Nat} (h : mSt E c) {i : Int32} (hi : vp_in i 12) : mSg E (c + 4 + i.toNatClampNeg) := by
  obtain ⟨h1, h2, h3⟩ := h
  have hn : i.toNatClampNeg < 12 := Nat.not_le.mp fun q => hi (Or.inr q)
  exact ⟨by omega, by omega, by omega, by rw [Nat.add_assoc]; exact h3 _ (by omega)⟩
theorem mSt.tr {E : mE} {c : Nat} (h : mSt E c) {i : Int32} (hi : vp_in i 4) : mTr E (c + 16 + i.toNatClampNeg) := by
  obtain ⟨h1, h2, h3⟩ := h
  have hn : i.toNatClampNeg < 4 := Nat.not_le.mp fun q => hi (Or.inr q)
  exact ⟨by omega, by omega, by rw [Nat.add_assoc]; exact h3 _ (by omega)⟩
abbrev mStP (c : Nat) : Prop := c < 240 ∧ c % 20 = 0
theorem mStP.k {E : mE} {c : Nat} (h : mStP c) (hI : ∀ r, r < 246 → r ∈ mI E) : mSt E c := ⟨h.1, h.2, fun r hr => hI _ (by have h1 := h.1; have h2 := h.2; omega)⟩
theorem mAl.now {E : mE} {c : Nat} (h : mAl E c) : mSt E 0 := ⟨by decide, by decide, fun r hr => h.2 _ (by omega)⟩
theorem mAl.trial {E : mE} {c : Nat} (h : mAl E c) : mSt E 20 := ⟨by decide, by decide, fun r hr => h.2 _ (by omega)⟩
theorem mAl.tx {E : mE} {c : Nat} (h : mAl E c) : mTx E 241 := ⟨rfl, h.2 _ (by decide), h.2 _ (by decide)⟩
theorem mAl.hi {E : mE} {c : Nat} (h : mAl E c) : mHi E 243 := ⟨rfl, h.2⟩
theorem mAl.img {E : mE} {c : Nat} (h : mAl E c) {i : Int32} (hi : vp_in i 2) : mSt E (200 + 20 * i.toNatClampNeg) := by
  have hn : i.toNatClampNeg < 2 := Nat.not_le.mp fun q => hi (Or.inr q)
  exact ⟨by omega, by omega, fun r hr => h.2 _ (by omega)⟩
/-- the world of G -/
def mws (E : mE) (G : mM) : va_W := (mI E).map (fun c => (mad E c, mcell E G c))
def mP (E : mE) (G : mM) (H : Heap) : Prop := va_P E.1 vwCl (mws E G) H
def mK (E : mE) (U : State) : Prop := va_K E.1 vwCl (mtys E) U
def mJ (E : mE) : Prop := ((mI E).map (mad E)).Nodup
def mA (E : mE) : Nat → Prop := fun q => ∃ c, c ∈ mI E ∧ mad E c = q
def mZ (E : mE) (H0 H : Heap) (locs : List Loc) (G : mM) : Prop := mP E G H ∧ va_S (mA E) H0 H locs
/-- the three static rows of the class -/
def mStat (i j : Nat) : Int32 := (([[300, 5, 0], [10, 1, 0], [900, 50, 2]] : List (List Int32)).getD i []).getD j 0
def mStatN (i : Nat) : String := (["FIRST_VALUE", "LEAST_VALUE", "MOST_VALUE"] : List String).getD i ""
def mS (E : mE) (U : State) (H : Heap) : Prop := ∀ i, i < 3 → ∃ t : Nat, va_Z "PeatRailway" (mStatN i) "[I" (.ref t) (mA E) U H ∧ va_T .int t 3 (fun j => .int (mStat i j)) (mA E) U H
theorem mS.moved {E : mE} {u U : State} {H : Heap} (hvm : u.vm.Alike U.vm) (h : mS E u H) : mS E U H := fun i hi => by
  obtain ⟨t, h1, h2⟩ := h i hi
  exact ⟨t, va_Z.moved hvm h1, va_T.moved hvm h2⟩
theorem mS.kept {E : mE} {U : State} {H H1 : Heap} (h : mS E U H) (hq : ∀ a : Nat, a < H.size → ¬ mA E a → H1[a]? = H[a]?) : mS E U H1 := fun i hi => by
  obtain ⟨t, h1, h2⟩ := h i hi
  exact ⟨t, va_Z.kept h1 hq, va_T.kept h2 hq⟩
theorem mws_at {E : mE} {G : mM} {q c : Nat} (h : (mI E)[q]? = some c) : (mws E G)[q]? = some (mad E c, mcell E G c) := by
  unfold mws
  rw [List.getElem?_map, h]
  rfl
theorem mws_of {E : mE} {G : mM} {q : Nat} {x : Nat × va_E} (h : (mws E G)[q]? = some x) : ∃ c, (mI E)[q]? = some c ∧ x = (mad E c, mcell E G c) := by
  unfold mws at h
  rw [List.getElem?_map] at h
  cases hc : (mI E)[q]? with
  | none => rw [hc] at h; cases h
  | some c => rw [hc] at h; exact ⟨c, rfl, (Option.some.inj h).symm⟩
theorem mJ.inj {E : mE} (hJ : mJ E) {i j a b : Nat} (hi : (mI E)[i]? = some a) (hj : (mI E)[j]? = some b) (h : mad E a = mad E b) : i = j := by
  have h1 : ((mI E).map (mad E))[i]? = some (mad E a) := by rw [List.getElem?_map, hi]; rfl
  have h2 : ((mI E).map (mad E))[j]? = some (mad E a) := by rw [List.getElem?_map, hj, h]; rfl
  have hl := (List.getElem?_eq_some_iff.mp h1).1
  exact (List.getElem?_inj hl hJ).mp (h1.trans h2.symm)
theorem mD_of {E : mE} (hJ : mJ E) (G : mM) : va_D (mA E) (mws E G) := by
  refine ⟨fun i j p q hi hj h => ?_, fun k q hk => ?_⟩
  · obtain ⟨a, ha, rfl⟩ := mws_of hi
    obtain ⟨b, hb, rfl⟩ := mws_of hj
    exact hJ.inj ha hb h
  · obtain ⟨a, ha, rfl⟩ := mws_of hk
    exact ⟨a, List.mem_of_getElem? ha, rfl⟩
theorem mws_set {E : mE} (hJ : mJ E) {G G' : mM} {q a : Nat} (h : (mI E)[q]? = some a) (ho : ∀ c, c ≠ a → G' c = G c) : (mws E G).set q (mad E a, mcell E G' a) = mws E G' := by
  apply List.ext_getElem?
  intro k
  have hl : q < (mws E G).length := (List.getElem?_eq_some_iff.mp (mws_at (G := G) h)).1
  by_cases hk : k = q
  · subst hk
    rw [List.getElem?_set_self hl, mws_at h]
  · rw [List.getElem?_set_ne (Ne.symm hk)]
    unfold mws
    rw [List.getElem?_map, List.getElem?_map]
    cases hc : (mI E)[k]? with
    | none => rfl
    | some c =>
      have hca : c ≠ a := fun e => hk (hJ.inj hc h (by rw [e]))
      show some (mad E c, mcell E G c) = some (mad E c, mcell E G' c)
      rw [mcell_cong (ho c hca).symm]
theorem mws_put {E : mE} (hJ : mJ E) {G : mM} {q a k : Nat} {v : Int32} {e : va_E} (h : (mI E)[q]? = some a) (he : mcell E (up2 G a k v) a = e) : (mws E G).set q (mad E a, e) = mws E (up2 G a k v) := by
  rw [← he]
  exact mws_set hJ h (fun c hc => up2_other hc)
theorem mRow {E : mE} {c : Nat} (hI : c ∈ mI E) (h : 246 ≤ c) : mAi E c 1 (mLn c) := ⟨hI, fun G => by
  unfold mcell
  rw [if_neg (by omega), if_neg (by omega), if_neg (by omega), if_neg (by omega), if_neg (by omega), if_neg (by omega), if_neg (by omega)]⟩
