/-! the law's ahead: three rows more, the rest, and the rows are forgotten -/
def xL_ahead (x1 : Int32) (G : mM) : Option (Int32 × mM) := xL_ahead_T x1 (rz (rz (rz G 252) 253) 254)
section OLD
variable {p : Program} {l : Launch} {e : Env} {R : Room} {s : State} {m : MethodId} {args : Array Value} {below : List Frame} {meth : Method} {c : Code} {H : Heap} {locs : List Loc} {cells slots : Nat} {Q : State → Prop}
/-- what was written in cells that the start did not have need not be named -/
theorem W.onlyOld {locs' : List Loc} {g : JFrame} (h : ∀ y ∈ locs, y.base < s.heap.size → y ∈ locs') (kk : W p l e R s m args below meth c H locs' cells slots Q g) : W p l e R s m args below meth c H locs cells slots Q g := fun T hT X => kk T hT { X with same := X.same.weaken (fun y hy hlt => h y hy hlt) (Nat.le_refl _) (Nat.le_refl _) }
end OLD
def E3 (E : mE) (a b c : Nat) : mE := eRow (eRow (eRow E 252 a) 253 b) 254 c
theorem E3_o {E : mE} {a b c k : Nat} (h : k < 252) : mad (E3 E a b c) k = mad E k := by
  show fset (fset (fset (mad E) 252 a) 253 b) 254 c k = mad E k
  rw [fset_n (by omega), fset_n (by omega), fset_n (by omega)]
theorem E3_A {E : mE} {a b c n : Nat} (hI : mI E = List.range 252) (ha : n ≤ a) (hb : n ≤ b) (hc : n ≤ c) {x : Nat} (h : mA (E3 E a b c) x) (hx : x < n) : mA E x := by
  obtain ⟨k, hk, rfl⟩ := h
  have hk' : k ∈ ((mI E ++ [252]) ++ [253]) ++ [254] := hk
  rcases List.mem_append.mp hk' with h1 | h1
  · rcases List.mem_append.mp h1 with h2 | h2
    · rcases List.mem_append.mp h2 with h3 | h3
      · have : k < 252 := List.mem_range.mp (hI ▸ h3)
        rw [E3_o this]
        exact ⟨k, h3, rfl⟩
      · rw [List.mem_singleton.mp h3] at hx
        have e : mad (E3 E a b c) 252 = a := rfl
        rw [e] at hx
        omega
    · rw [List.mem_singleton.mp h2] at hx
      have e : mad (E3 E a b c) 253 = b := rfl
      rw [e] at hx
      omega
  · rw [List.mem_singleton.mp h1] at hx
    have e : mad (E3 E a b c) 254 = c := rfl
    rw [e] at hx
    omega
theorem E3_P {E : mE} {a b c : Nat} (hI : mI E = List.range 252) {G : mM} (h4 : h244 G) {H : Heap} (h : mP (E3 E a b c) G H) : mP E G H := mP_of (fun k hk => by
  have hk2 : k < 252 := List.mem_range.mp (hI ▸ hk)
  have h1 := mP_at h (show k ∈ ((mI E ++ [252]) ++ [253]) ++ [254] from List.mem_append_left _ (List.mem_append_left _ (List.mem_append_left _ hk)))
  rw [E3_o hk2] at h1
  exact mc_env (E := E3 E a b c) (E' := E) rfl (fun j hj => (E3_o (by omega)).symm) h4 h1)
set_option maxHeartbeats 4000000 in
set_option maxRecDepth 100000 in
theorem mL_ahead (l : Launch) (E : mE) (hJ : mJ E) (hI : mI E = List.range 252) (x1 : Int32) (G : mM) (q : Int32 × mM) (hT : xL_ahead x1 G = some q) (h4 : h244 G) (h5 : h244 q.2) : mMetN l E yL_ahead cL_ahead 15 (some .boolean) 7 165 3 74 [.ref (mad E 240), .int x1, .ref (mad E 246), .ref (mad E 247), .ref (mad E 248)] G (some (.int q.1)) q.2 := by
  refine Met.ofW (cc := cL_ahead) (maxL := 15) (ret := (some .boolean)) (by decide) rfl ?_
  intro p e s m args below meth cd s₁ B hml hv
  obtain ⟨rfl, hP, hK, hS⟩ := hv
  have X : mX p s m [.ref (mad E 240), .int x1, .ref (mad E 246), .ref (mad E 247), .ref (mad E 248)].toArray cd cL_ahead 15 RL E := by
    refine ⟨B.exec, B.bytes, hml, ?_, fun w h => atoms_spec (ws := mWs yL_ahead cL_ahead 15 (some .boolean)) B.pre w (List.mem_cons_of_mem _ h), hK, hJ, hS⟩
    rw [show RL = yL_ahead.cls from rfl]
    exact findClass_of_methodNamed B.named
  have hx := X.1
  have hb := X.2.1
  have hr := B.returns
  have hlocks := B.notSynchronized
  have hR : 7 ≤ (headSpec (mWs yL_ahead cL_ahead 15 (some .boolean)) ({ frames := 7, cells := 3, slots := 74, locals := 165 })).room.frames ∧ 165 ≤ (headSpec (mWs yL_ahead cL_ahead 15 (some .boolean)) ({ frames := 7, cells := 3, slots := 74, locals := 165 })).room.locals := ⟨Nat.le_refl _, Nat.le_refl _⟩
  have Z : mZ E s.heap s.heap [] G := ⟨hP, va_S.rf⟩
  have hl := lv_entry ([.ref (mad E 240), .int x1, .ref (mad E 246), .ref (mad E 247), .ref (mad E 248)]) (n := 15) (Nat.le_of_ble_eq_true rfl)
  rw [lg_entry_eq]
  generalize (lg_sl ([.ref (mad E 240), .int x1, .ref (mad E 246), .ref (mad E 247), .ref (mad E 248)]) ++ List.replicate (15 - (lg_sl ([.ref (mad E 240), .int x1, .ref (mad E 246), .ref (mad E 247), .ref (mad E 248)])).length) Slot.unset).toArray = ls at hl ⊢
  have hl : lv_has ls 15 [(0, .ref (mad E 240)), (1, .int x1), (2, .ref (mad E 246)), (3, .ref (mad E 247)), (4, .ref (mad E 248))] := hl
  have hI1 : ∀ c ∈ mI E, c < 252 := fun c hc => List.mem_range.mp (hI ▸ hc)
  refine lv_bipush (v := (10 : Int32)) hx hb dL_ahead_0 (by decide) ?_
  refine mx_newa (r := 252) (N := 10) X Z h4 hI1 (by decide) (by decide) (by decide) rfl (Nat.le_of_ble_eq_true rfl) (Nat.le_of_ble_eq_true rfl) (Nat.le_of_ble_eq_true rfl) dL_ahead_2 (fun q1 H hq1 hm1 X1 Z => ?_)
  refine lv_astore (lv' := [(5, .ref q1), (0, .ref (mad E 240)), (1, .int x1), (2, .ref (mad E 246)), (3, .ref (mad E 247)), (4, .ref (mad E 248))]) hx hb dL_ahead_4 hl (by decide) rfl (fun ls hl => ?_)
  have g1 : h244 (rz G 252) := fun j hj => by rw [rz_o (by decide)]; exact h4 j hj
  have hI2 : ∀ c ∈ mI (eRow E 252 q1), c < 253 := fun c hc => by
    rcases List.mem_append.mp (show c ∈ mI E ++ [252] from hc) with h | h
    · have := hI1 c h; omega
    · rw [List.mem_singleton.mp h]; decide
  refine lv_bipush (v := (24 : Int32)) hx hb dL_ahead_6 (by decide) ?_
  refine mx_newa (r := 253) (N := 24) X1 Z g1 hI2 (by decide) (by decide) (by decide) rfl (Nat.le_of_ble_eq_true rfl) (Nat.le_of_ble_eq_true rfl) (Nat.le_of_ble_eq_true rfl) dL_ahead_8 (fun q2 H hq2 hm2 X2 Z => ?_)
  refine lv_astore (lv' := [(6, .ref q2), (5, .ref q1), (0, .ref (mad E 240)), (1, .int x1), (2, .ref (mad E 246)), (3, .ref (mad E 247)), (4, .ref (mad E 248))]) hx hb dL_ahead_10 hl (by decide) rfl (fun ls hl => ?_)
  have g2 : h244 (rz (rz G 252) 253) := fun j hj => by rw [rz_o (by decide)]; exact g1 j hj
  have hI3 : ∀ c ∈ mI (eRow (eRow E 252 q1) 253 q2), c < 254 := fun c hc => by
    rcases List.mem_append.mp (show c ∈ mI (eRow E 252 q1) ++ [253] from hc) with h | h
    · have := hI2 c h; omega
    · rw [List.mem_singleton.mp h]; decide
  refine lv_bipush (v := (40 : Int32)) hx hb dL_ahead_12 (by decide) ?_
  refine mx_newa (r := 254) (N := 40) X2 Z g2 hI3 (by decide) (by decide) (by decide) rfl (Nat.le_of_ble_eq_true rfl) (Nat.le_of_ble_eq_true rfl) (Nat.le_of_ble_eq_true rfl) dL_ahead_14 (fun q3 H hq3 hm3 X3 Z => ?_)
  refine lv_astore (lv' := [(7, .ref q3), (6, .ref q2), (5, .ref q1), (0, .ref (mad E 240)), (1, .int x1), (2, .ref (mad E 246)), (3, .ref (mad E 247)), (4, .ref (mad E 248))]) hx hb dL_ahead_16 hl (by decide) rfl (fun ls hl => ?_)
  have X3 : mX p s m _ cd cL_ahead 15 RL (E3 E q1 q2 q3) := X3
  have Z : mZ (E3 E q1 q2 q3) s.heap H [] (rz (rz (rz G 252) 253) 254) := Z
  have hmem : ∀ k, k < 252 → k ∈ mI (E3 E q1 q2 q3) := fun k hk => List.mem_append_left _ (List.mem_append_left _ (List.mem_append_left _ (by rw [hI]; exact List.mem_range.mpr hk)))
  have e240 : mad (E3 E q1 q2 q3) 240 = mad E 240 := E3_o (by decide)
  have e246 : mad (E3 E q1 q2 q3) 246 = mad E 246 := E3_o (by decide)
  have e247 : mad (E3 E q1 q2 q3) 247 = mad E 247 := E3_o (by decide)
  have e248 : mad (E3 E q1 q2 q3) 248 = mad E 248 := E3_o (by decide)
  have e252 : mad (E3 E q1 q2 q3) 252 = q1 := rfl
  have e253 : mad (E3 E q1 q2 q3) 253 = q2 := rfl
  have e254 : mad (E3 E q1 q2 q3) 254 = q3 := rfl
  have hl : lv_has ls 15 [(7, .ref (mad (E3 E q1 q2 q3) 254)), (6, .ref (mad (E3 E q1 q2 q3) 253)), (5, .ref (mad (E3 E q1 q2 q3) 252)), (0, .ref (mad (E3 E q1 q2 q3) 240)), (1, .int x1), (2, .ref (mad (E3 E q1 q2 q3) 246)), (3, .ref (mad (E3 E q1 q2 q3) 247)), (4, .ref (mad (E3 E q1 q2 q3) 248))] := by
    rw [e240, e246, e247, e248, e252, e253, e254]
    exact hl
  have m252 : 252 ∈ mI (E3 E q1 q2 q3) := List.mem_append_left _ (List.mem_append_left _ (List.mem_append_right _ (List.mem_singleton.mpr rfl)))
  have m253 : 253 ∈ mI (E3 E q1 q2 q3) := List.mem_append_left _ (List.mem_append_right _ (List.mem_singleton.mpr rfl))
  have m254 : 254 ∈ mI (E3 E q1 q2 q3) := List.mem_append_right _ (List.mem_singleton.mpr rfl)
  refine W.widen (k := 3) (n := 74) (Nat.le_of_ble_eq_true rfl) (Nat.le_of_ble_eq_true rfl) ?_
  refine tL_ahead X3 hR X3.2.2.2.2.2.2.1 ⟨Nat.le_of_ble_eq_true rfl, Nat.le_of_ble_eq_true rfl⟩ ⟨rfl, fun r hr => hmem r (by omega)⟩ (mRow (hmem 246 (by decide)) (by decide)) (mRow (hmem 247 (by decide)) (by decide)) (mRow (hmem 248 (by decide)) (by decide)) (mRow m252 (by decide)) (mRow m253 (by decide)) (mRow m254 (by decide)) x1 _ q hT (fun H locs ls pc Z hbl hdg => ?_) H [] ls Z (lv_sub hl [0, 1, 2, 7, 6, 5, 4, 3] rfl)
  refine W.onlyOld (locs' := locs.filter (fun y => decide (y.base < s.heap.size))) (fun y hy hlt => List.mem_filter.mpr ⟨hy, decide_eq_true hlt⟩) ?_
  refine W.zret hx hb hr (mBl.n hbl) (fun t ht hW => ⟨rfl, ?_, ?_⟩) (fun y hy => ?_) hdg
  · obtain ⟨h1, h2⟩ := List.mem_filter.mp hy
    exact E3_A hI hq1 hq2 hq3 (Z.2.2.2 y h1) (of_decide_eq_true h2)
  · rw [ht]
    exact E3_P hI h5 Z.1
  · refine ⟨by rw [ht]; exact Z.2.1, fun y h1 h2 => by rw [ht]; exact Z.2.2.1 y h1 (fun z => h2 (E3_A hI hq1 hq2 hq3 z h1))⟩
