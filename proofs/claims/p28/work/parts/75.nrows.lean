/-! CALLS over a world of numbered cells, in a walk that may write more than that world -/
def sS (A : Nat → Prop) (U : State) (H : Heap) : Prop := ∀ i, i < 3 → ∃ t : Nat, va_Z "PeatRailway" (mStatN i) "[I" (.ref t) A U H ∧ va_T .int t 3 (fun j => .int (mStat i j)) A U H
theorem sS.narrow {A B : Nat → Prop} {U : State} {H : Heap} (h : sS A U H) (hAB : ∀ q, B q → A q) : sS B U H := fun i hi => by
  obtain ⟨t, h1, h2⟩ := h i hi
  obtain ⟨cf, kf, fi, f, a, cell, a1, a2, a3, a4, a5, a6, a7, a8⟩ := h1
  exact ⟨t, ⟨cf, kf, fi, f, a, cell, a1, a2, a3, a4, a5, a6, a7, fun z => a8 (hAB _ z)⟩, va_T.narrow h2 hAB⟩
theorem sS.moved {A : Nat → Prop} {u U : State} {H : Heap} (hvm : u.vm.Alike U.vm) (h : sS A u H) : sS A U H := fun i hi => by
  obtain ⟨t, h1, h2⟩ := h i hi
  exact ⟨t, va_Z.moved hvm h1, va_T.moved hvm h2⟩
theorem sS.kept {A : Nat → Prop} {U : State} {H H1 : Heap} (h : sS A U H) (hq : ∀ a : Nat, a < H.size → ¬ A a → H1[a]? = H[a]?) : sS A U H1 := fun i hi => by
  obtain ⟨t, h1, h2⟩ := h i hi
  exact ⟨t, va_Z.kept h1 hq, va_T.kept h2 hq⟩
theorem sS.nF {A : Nat → Prop} {U : State} {H : Heap} (h : sS A U H) : nF A U H := h 0 (by decide)
theorem sS.mS {E : mE} {A : Nat → Prop} {U : State} {H : Heap} (h : sS A U H) (hEA : ∀ q, mA E q → A q) : mS E U H := h.narrow hEA
section NXR
variable {p : Program} {l : Launch} {e : Env} {R : Room} {s : State} {m : MethodId} {args : Array Value} {below : List Frame} {meth : Method} {c : Code} {H : Heap} {locs : List Loc} {cells slots : Nat} {Q : State → Prop}
variable {cc : ByteArray} {pc nL : Nat} {ls : Array Slot} {rest : List Value} {own : String} {E : mE} {G : mM} {A : Nat → Prop}
def nX (p : Program) (s : State) (m : MethodId) (args : Array Value) (c : Code) (cc : ByteArray) (nL : Nat) (own : String) (A : Nat → Prop) : Prop := p.tables.exec = Jvm.exec ∧ c.code = cc ∧ c.maxLocals = nL ∧ s.vm.findClass own = some m.cls ∧ (∀ w ∈ wsL_law, w.before args s = true) ∧ sS A s s.heap
theorem nx_pre (hSt : sS A s s.heap) (hK : mK E s) (hEA : ∀ q, mA E q → A q) (hP : mP E G H) (hS : va_S A s.heap H locs) {av : List Value} (U : State) (hU : U.heap = H) (hW : s.WarmedH U.vm) : mPc E av G av.toArray U := by
  refine ⟨rfl, by rw [hU]; exact hP, va_K.moved hW.alike hK, ?_⟩
  rw [hU]
  exact ((hSt.kept (fun a h1 h2 => hS.2.1 a h1 h2)).moved hW.alike).narrow hEA
theorem nx_back {mc ms : Nat} {a : Array Value} {v : Option Value} {G' : mM} {st0 : List Value} (hr : va_Run p l e R s m args below meth c H locs cells slots 0 0 (F0 m pc ls st0) rest (mQ E v G' a) (mA E)) (hEA : ∀ q, mA E q → A q) (hS : va_S A s.heap H locs)
    (kk : ∀ (H1 : Heap) (locs1 : List Loc), mP E G' H1 → H.size ≤ H1.size → (∀ q : Nat, q < H.size → ¬ mA E q → H1[q]? = H[q]?) → va_S A s.heap H1 locs1 → W p l e R s m args below meth c H1 locs1 cells slots Q (F0 m (pc + 3) ls (v.toList ++ rest))) : W p l e R s m args below meth c H locs cells slots Q (F0 m pc ls st0) := by
  intro T hT X
  obtain ⟨v1, st₀, t, T', L, h0, X', hL, e1, e2, ⟨hv, hp, hz, hk⟩, st⟩ := hr T hT X
  cases hv
  rw [h0] at hz hk
  obtain ⟨t2, a1, b1⟩ := kk T'.heap (locs ++ L) (by rw [e1]; exact hp) (by rw [e1]; exact hz) (fun q h1 h2 => by rw [e1]; exact hk q h1 h2) ⟨Nat.le_trans hS.1 (by rw [e1]; exact hz), fun q h1 h2 => by rw [e1, hk q (Nat.lt_of_lt_of_le h1 hS.1) (fun z => h2 (hEA q z))]; exact hS.2.1 q h1 h2, fun q hq => by
      rcases List.mem_append.mp hq with h | h
      · exact hS.2.2 q h
      · exact hEA _ (hL q h)⟩ T' rfl X'
  exact ⟨t2, st t2 a1, b1⟩
theorem nx_callV (X : nX p s m args c cc nL own A) (hK : mK E s) (hEA : ∀ q, mA E q → A q) (hP : mP E G H) (hS : va_S A s.heap H locs) (hs : ls.size = nL) {y : MethodName} {cc' : ByteArray} {n' : Nat} {ret : Option FieldType} {fr lo index cB ci N : Nat} {C : String} {T : u_T} {fs : List Value} {As : List Value} {v : Option Value} {G' : mM} (hM : mMet l E y cc' n' ret fr lo (.ref (mad E cB) :: As) G v G') (w1 : Cond.methodLink own index y ∈ wsL_law) (w2 : Cond.instanceMethod y ∈ wsL_law) (w3 : Cond.selects C y y ∈ wsL_law) (w4 : Cond.initialized C ∈ wsL_law) (w5 : Cond.code y cc' n' ret ∈ wsL_law) (hd : y.cls = C ∧ y.cls ≠ "java/lang/invoke/MethodHandle" ∧ y.cls ≠ "java/lang/invoke/VarHandle" ∧ (parseMethodDescriptor y.desc).map (fun d => d.parameters.length) = some As.length) (hR : fr + 1 ≤ R.frames ∧ 8 + (n' + 11) + lo ≤ R.locals) (hcs : cells ≤ R.cells ∧ slots ≤ R.slots) (hI : cB ∈ mI E) (hc : mcell E G cB = .inr (ci, fs)) (hcl : vwCl[ci]? = some (C, T, N)) (hcat : (rest.map fun v => v.category).sum ≤ 8) {st0 st1 : List Value} (hst : st0 = As.reverse ++ .ref (mad E cB) :: rest) (hs1 : v.toList ++ rest = st1) (hdg : decode cc pc = .ok (.invokevirtual index, 3))
    (kk : ∀ (H1 : Heap) (locs1 : List Loc), mP E G' H1 → H.size ≤ H1.size → (∀ q : Nat, q < H.size → ¬ mA E q → H1[q]? = H[q]?) → va_S A s.heap H1 locs1 → W p l e R s m args below meth c H1 locs1 cells slots Q (F0 m (pc + 3) ls st1)) : W p l e R s m args below meth c H locs cells slots Q (F0 m pc ls st0) := by
  subst hs1
  obtain ⟨hx, hb, hml, hown, hts, hSt⟩ := X
  obtain ⟨q0, hq⟩ := List.getElem?_of_mem hI
  have hg : GoodIn wsL_law (wsV own index C y (mWs y cc' n' ret)) := mx_good (fun w h => by
    simp only [wsV, mWs, List.cons_append, List.nil_append, List.mem_cons] at h
    rcases h with rfl | rfl | rfl | rfl | rfl | h
    · exact w1
    · exact w2
    · exact w3
    · exact w4
    · exact w5
    · exact h)
  exact nx_back (mc := 0) (ms := 0) (va_runV (As := As) (rest := rest) (g := F0 m pc ls st0) (free := mA E) ⟨hx, hb, hml, hown, hts⟩ hM (cwV As.length hts hg rfl rfl rfl hd hR) ⟨mPc.blind, va_recv hK hP (ci := ci) (q0 := q0) hcl (by rw [mws_at hq, hc]), fun U hU hW => nx_pre hSt hK hEA hP hS U hU hW⟩ rfl rfl hs hst (lv_room hcat) hdg hcs) hEA hS kk
end NXR
