/-! CONSTRUCTOR State(): its rows grow -/
abbrev mtY (Y : Nat → ClassId) : List (ClassId × FieldType) := [(Y 0, .char), (Y 1, .int), (Y 2, .object "PeatRailway$Segment"), (Y 3, .object "PeatRailway$State"), (Y 4, .object "PeatRailway$Train")]
def fset (f : Nat → Nat) (r q : Nat) : Nat → Nat := fun c => if c = r then q else f c
theorem fset_s (f : Nat → Nat) (r q : Nat) : fset f r q r = q := if_pos rfl
theorem fset_n {f : Nat → Nat} {r q c : Nat} (h : c ≠ r) : fset f r q c = f c := if_neg h
abbrev vSeg0 : List Value := [.int 0, .int 0, .int 0, .int 0, .int 0, .int 0]
abbrev vTr0 : List Value := [.int 0, .int 0, .int 0, .int 0, .int 0, .int 0, .int 0, .int 0, .int 0, .int 0]
abbrev vSt0 (a b c : Value) : List Value := [a, b, c, .int 0, .int 0, .int 0, .int 0, .int 0, .int 0, .int 0, .int 0]
/-- a row of references, so many of them there -/
abbrev rwq (cA : ClassId) (n : Nat) (g : Nat → Option Nat) : va_E := .inl (cA, n, .inr (.inr (.inr (.inr g))))
def upto (i b : Nat) (f : Nat → Nat) : Nat → Option Nat := fun q => if q < i then some (f (b + q)) else none
theorem upto_0 (b : Nat) (f : Nat → Nat) : upto 0 b f = fun _ => none := by funext q; unfold upto; rw [if_neg (by omega)]
theorem upto_s (i b : Nat) (f : Nat → Nat) (q : Nat) : va_up (upto i b f) i (some q) = upto (i + 1) b (fset f (b + i) q) := by
  funext k
  unfold va_up upto
  by_cases h : k = i
  · subst h
    rw [if_pos rfl, if_pos (by omega), fset_s]
  · rw [if_neg h]
    by_cases h2 : k < i
    · rw [if_pos h2, if_pos (by omega), fset_n (by omega)]
    · rw [if_neg h2, if_neg (by omega)]
def tailW (b : Nat) (e : va_E) (f : Nat → Nat) (i : Nat) : va_W := (List.range i).map (fun s => (f (b + s), e))
theorem tailW_s (b : Nat) (e : va_E) (f : Nat → Nat) (i q : Nat) : tailW b e f i ++ [(q, e)] = tailW b e (fset f (b + i) q) (i + 1) := by
  unfold tailW
  rw [List.range_succ, List.map_append, List.map_cons, List.map_nil, fset_s]
  congr 1
  apply List.map_congr_left
  intro s hs
  rw [fset_n (by have := List.mem_range.mp hs; omega)]
theorem tailW_at {b : Nat} {e : va_E} {f : Nat → Nat} {i s : Nat} (h : s < i) : (tailW b e f i)[s]? = some (f (b + s), e) := by
  unfold tailW
  rw [List.getElem?_map, List.getElem?_range h]
  rfl
theorem tailW_len (b : Nat) (e : va_E) (f : Nat → Nat) (i : Nat) : (tailW b e f i).length = i := by
  unfold tailW
  rw [List.length_map, List.length_range]
theorem findRow {D : va_G} {cl : List vw_C} {Y : Nat → ClassId} {s : State} {cA : ClassId} {ty : FieldType} {t : Nat} (hK : va_K D cl (mtY Y) s) (ht : (mtY Y)[t]? = some (Y t, ty)) (h : va_K D cl (mtY Y ++ [(cA, ty)]) s) : cA = Y t := by
  have h1 := (h.2 5 (cA, ty) rfl).2
  have h2 := (hK.2 t _ ht).2
  cases ty with
  | object C =>
    obtain ⟨_, _, _, _, _, a⟩ := h1
    obtain ⟨_, _, _, _, _, b⟩ := h2
    exact Option.some.inj (a.symm.trans b)
  | _ => exact Option.some.inj ((show _ = some cA from h1).symm.trans (show _ = some (Y t) from h2))
/-- what the Statement gives of the tables, beside the words -/
def nG (s : State) : Prop := va_Nw (.methodLinkNest RX3 17 yX2_init "PeatRailway") s ∧ va_Nw (.methodLinkNest RX3 24 yX4_init "PeatRailway") s ∧ va_Nw (.fieldLinkNest RX3 29 "PeatRailway" "FIRST_VALUE" "[I" "PeatRailway") s ∧ va_AO "PeatRailway$Segment" s ∧ va_AO "PeatRailway$State" s ∧ va_AO "PeatRailway$Train" s
theorem nG.warm {s U : State} (hW : s.WarmedH U.vm) (h : nG s) : nG U := ⟨va_Nw.warmM hW h.1, va_Nw.warmM hW h.2.1, va_Nw.warmF hW h.2.2.1, va_AO.moved hW.alike h.2.2.2.1, va_AO.moved hW.alike h.2.2.2.2.1, va_AO.moved hW.alike h.2.2.2.2.2⟩
