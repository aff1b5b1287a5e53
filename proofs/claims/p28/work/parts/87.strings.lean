/-! THE TEXT CONSTANT: String.length, String.charAt over it -/
def sT (aK aV : Nat) (A : Nat → Prop) (U : State) (H : Heap) : Prop := va_O "java/lang/String" aK A U H ∧ va_OF "java/lang/String" "coder" "B" (.int 0) aK A U H ∧ va_OF "java/lang/String" "value" "[B" (.ref aV) aK A U H ∧ va_T .byte aV 16 (fun j => .int (cd0 j)) A U H ∧ va_Z "java/lang/String" "COMPACT_STRINGS" "Z" (.int 1) A U H ∧ va_Zq "jdk/internal/util/Preconditions" "SIOOBE_FORMATTER" "Ljava/util/function/BiFunction;" A U H
theorem sT.moved {aK aV : Nat} {A : Nat → Prop} {u U : State} {H : Heap} (hvm : u.vm.Alike U.vm) (h : sT aK aV A u H) : sT aK aV A U H := ⟨va_O.moved hvm h.1, va_OF.moved hvm h.2.1, va_OF.moved hvm h.2.2.1, va_T.moved hvm h.2.2.2.1, va_Z.moved hvm h.2.2.2.2.1, va_Zq.moved hvm h.2.2.2.2.2⟩
theorem sT.kept {aK aV : Nat} {A : Nat → Prop} {U : State} {H H1 : Heap} (h : sT aK aV A U H) (hq : ∀ a : Nat, a < H.size → ¬ A a → H1[a]? = H[a]?) : sT aK aV A U H1 := ⟨h.1.kept hq, h.2.1.kept hq, h.2.2.1.kept hq, h.2.2.2.1.kept hq, h.2.2.2.2.1.kept hq, h.2.2.2.2.2.kept hq⟩
theorem sT.narrow {aK aV : Nat} {A B : Nat → Prop} {U : State} {H : Heap} (h : sT aK aV A U H) (hAB : ∀ q, B q → A q) : sT aK aV B U H := ⟨h.1.narrow hAB, h.2.1.narrow hAB, h.2.2.1.narrow hAB, h.2.2.2.1.narrow hAB, h.2.2.2.2.1.narrow hAB, h.2.2.2.2.2.narrow hAB⟩
def sNo : Nat → Prop := fun _ => False
def sPc (aK aV : Nat) (av : List Value) : Array Value → State → Prop := fun v U => v = av.toArray ∧ sT aK aV sNo U U.heap
def sQ (v : Option Value) : Array Value → State → Outcome → State → Prop := fun _ st oc t => oc = .returned v ∧ va_F sNo st t
def sMet (l : Launch) (aK aV : Nat) (y : MethodName) (cc : ByteArray) (n : Nat) (ret : Option FieldType) (fr lo : Nat) (av : List Value) (v : Option Value) : Prop :=
  Met l y (mWs y cc n ret) ({ frames := fr, cells := 0, slots := 0, locals := lo }) (sPc aK aV av) (sQ v) 0 0 sNo
theorem sPc.blind {aK aV : Nat} {av : List Value} : FrameBlind (sPc aK aV av) := fun a U g mk q => ⟨q.1, (q.2 : sT aK aV sNo U U.heap).moved (U := U.calling g mk a) (Vm.Alike.refl U.vm)⟩
section SXR
variable {p : Program} {l : Launch} {e : Env} {R : Room} {s : State} {m : MethodId} {args : Array Value} {below : List Frame} {meth : Method} {c : Code} {H : Heap} {locs : List Loc} {cells slots : Nat} {Q : State → Prop}
variable {cc : ByteArray} {pc nL : Nat} {ls : Array Slot} {rest : List Value} {own : String} {A : Nat → Prop} {aK aV : Nat}
theorem sx_pre (hT : sT aK aV A s s.heap) (hS : va_S A s.heap H locs) {av : List Value} (U : State) (hU : U.heap = H) (hW : s.WarmedH U.vm) : sPc aK aV av av.toArray U := by
  refine ⟨rfl, ?_⟩
  rw [hU]
  exact ((hT.kept (fun a h1 h2 => hS.2.1 a h1 h2)).moved hW.alike).narrow (fun q h => h.elim)
theorem sx_back {a : Array Value} {v : Option Value} {st0 : List Value} (hr : va_Run p l e R s m args below meth c H locs cells slots 0 0 (F0 m pc ls st0) rest (sQ v a) sNo) (hS : va_S A s.heap H locs)
    (kk : ∀ (H1 : Heap) (locs1 : List Loc), H.size ≤ H1.size → (∀ q : Nat, q < H.size → H1[q]? = H[q]?) → va_S A s.heap H1 locs1 → W p l e R s m args below meth c H1 locs1 cells slots Q (F0 m (pc + 3) ls (v.toList ++ rest))) : W p l e R s m args below meth c H locs cells slots Q (F0 m pc ls st0) := by
  intro T hT X
  obtain ⟨v1, st₀, t, T', L, h0, X', hL, e1, e2, ⟨hv, hz, hk⟩, st⟩ := hr T hT X
  cases hv
  rw [h0] at hz hk
  obtain ⟨t2, a1, b1⟩ := kk T'.heap (locs ++ L) (by rw [e1]; exact hz) (fun q h1 => by rw [e1]; exact hk q h1 (fun z => z)) ⟨Nat.le_trans hS.1 (by rw [e1]; exact hz), fun q h1 h2 => by rw [e1, hk q (Nat.lt_of_lt_of_le h1 hS.1) (fun z => z)]; exact hS.2.1 q h1 h2, fun q hq => by
      rcases List.mem_append.mp hq with h | h
      · exact hS.2.2 q h
      · exact (hL q h).elim⟩ T' rfl X'
  exact ⟨t2, st t2 a1, b1⟩
def sX (p : Program) (s : State) (m : MethodId) (args : Array Value) (c : Code) (cc : ByteArray) (nL : Nat) (own : String) (A : Nat → Prop) (aK aV : Nat) : Prop := p.tables.exec = Jvm.exec ∧ c.code = cc ∧ c.maxLocals = nL ∧ s.vm.findClass own = some m.cls ∧ (∀ w ∈ wsL_law, w.before args s = true) ∧ sT aK aV A s s.heap
theorem sx_entry {y : MethodName} {n : Nat} {ret : Option FieldType} {fr lo : Nat} {s₁ : State} (B : BodyLoose p l y (headSpec (mWs y cc n ret) ({ frames := fr, cells := 0, slots := 0, locals := lo })) cc n ret e s m args below meth c s₁) (hml : c.maxLocals = n) (hT : sT aK aV A s s.heap) (hy : y.cls = own) : sX p s m args c cc n own A aK aV := by
  refine ⟨B.exec, B.bytes, hml, ?_, fun w h => atoms_spec (ws := mWs y cc n ret) B.pre w (List.mem_cons_of_mem _ h), hT⟩
  rw [← hy]
  exact findClass_of_methodNamed B.named
theorem sx_callV (X : sX p s m args c cc nL own A aK aV) (hS : va_S A s.heap H locs) (hs : ls.size = nL) {y : MethodName} {cc' : ByteArray} {n' : Nat} {ret : Option FieldType} {fr lo index : Nat} {As : List Value} {v : Option Value} (hM : sMet l aK aV y cc' n' ret fr lo (.ref aK :: As) v) (w1 : Cond.methodLink own index y ∈ wsL_law) (w2 : Cond.instanceMethod y ∈ wsL_law) (w3 : Cond.selects RJ0 y y ∈ wsL_law) (w5 : Cond.code y cc' n' ret ∈ wsL_law) (hd : y.cls = RJ0 ∧ y.cls ≠ "java/lang/invoke/MethodHandle" ∧ y.cls ≠ "java/lang/invoke/VarHandle" ∧ (parseMethodDescriptor y.desc).map (fun d => d.parameters.length) = some As.length) (hR : fr + 1 ≤ R.frames ∧ 8 + (n' + 11) + lo ≤ R.locals) (hcs : cells ≤ R.cells ∧ slots ≤ R.slots) (hcat : (rest.map fun v => v.category).sum ≤ 8) {st0 st1 : List Value} (hst : st0 = As.reverse ++ .ref aK :: rest) (hs1 : v.toList ++ rest = st1) (hdg : decode cc pc = .ok (.invokevirtual index, 3))
    (kk : ∀ (H1 : Heap) (locs1 : List Loc), H.size ≤ H1.size → (∀ q : Nat, q < H.size → H1[q]? = H[q]?) → va_S A s.heap H1 locs1 → W p l e R s m args below meth c H1 locs1 cells slots Q (F0 m (pc + 3) ls st1)) : W p l e R s m args below meth c H locs cells slots Q (F0 m pc ls st0) := by
  subst hs1
  obtain ⟨hx, hb, hml, hown, hts, hT⟩ := id X
  have hg : GoodIn wsL_law (wsV own index RJ0 y (mWs y cc' n' ret)) := mx_good (fun w h => by
    simp only [wsV, mWs, List.cons_append, List.nil_append, List.mem_cons] at h
    rcases h with rfl | rfl | rfl | rfl | rfl | h
    · exact w1
    · exact w2
    · exact w3
    · exact wd_2_10
    · exact w5
    · exact h)
  have hrecv : ∃ cell : Cell, H[aK]? = some cell ∧ cell.vm.isStatics = false ∧ s.vm.findClass RJ0 = some cell.cls := by
    obtain ⟨cell, h1, h2, h3, -⟩ := hT.1.kept hS.2.1
    exact ⟨cell, h1, h2, h3⟩
  exact sx_back (va_runV (As := As) (rest := rest) (g := F0 m pc ls st0) (free := sNo) ⟨hx, hb, hml, hown, hts⟩ hM (cwV As.length hts hg rfl rfl rfl hd hR) ⟨sPc.blind, hrecv, fun U hU hW => sx_pre hT hS U hU hW⟩ rfl rfl hs hst (lv_room hcat) hdg hcs) hS kk
theorem sx_callS (X : sX p s m args c cc nL own A aK aV) (hS : va_S A s.heap H locs) (hs : ls.size = nL) {y : MethodName} {cc' : ByteArray} {n' : Nat} {ret : Option FieldType} {fr lo index : Nat} {As : List Value} {v : Option Value} (hM : sMet l aK aV y cc' n' ret fr lo As v) (w1 : Cond.methodLink own index y ∈ wsL_law) (w2 : Cond.static y ∈ wsL_law) (w4 : Cond.initialized y.cls ∈ wsL_law) (w5 : Cond.code y cc' n' ret ∈ wsL_law) (hd : y.cls ≠ "java/lang/invoke/MethodHandle" ∧ y.cls ≠ "java/lang/invoke/VarHandle" ∧ (parseMethodDescriptor y.desc).map (fun d => d.parameters.length) = some As.length) (hR : fr + 1 ≤ R.frames ∧ 8 + (n' + 11) + lo ≤ R.locals) (hcs : cells ≤ R.cells ∧ slots ≤ R.slots) (hcat : (rest.map fun v => v.category).sum ≤ 8) {st0 st1 : List Value} (hst : st0 = As.reverse ++ rest) (hs1 : v.toList ++ rest = st1) (hdg : decode cc pc = .ok (.invokestatic index, 3))
    (kk : ∀ (H1 : Heap) (locs1 : List Loc), H.size ≤ H1.size → (∀ q : Nat, q < H.size → H1[q]? = H[q]?) → va_S A s.heap H1 locs1 → W p l e R s m args below meth c H1 locs1 cells slots Q (F0 m (pc + 3) ls st1)) : W p l e R s m args below meth c H locs cells slots Q (F0 m pc ls st0) := by
  subst hs1
  obtain ⟨hx, hb, hml, hown, hts, hT⟩ := id X
  have hg : GoodIn wsL_law (va_wsS own index y (mWs y cc' n' ret)) := mx_good (fun w h => by
    simp only [va_wsS, mWs, List.cons_append, List.nil_append, List.mem_cons] at h
    rcases h with rfl | rfl | rfl | rfl | h
    · exact w1
    · exact w2
    · exact w4
    · exact w5
    · exact h)
  exact sx_back (va_runS (As := As) (rest := rest) (g := F0 m pc ls st0) (free := sNo) ⟨hx, hb, hml, hown, hts⟩ hM (va_cwS As.length hts hg rfl rfl rfl hd hR) ⟨sPc.blind, fun U hU hW => sx_pre hT hS U hU hW⟩ rfl rfl hs hst (lv_room hcat) hdg hcs) hS kk
end SXR
theorem sx_end {s : State} {H : Heap} {locs : List Loc} (hS : va_S sNo s.heap H locs) {v : Option Value} (t : State) (ht : t.heap = H) (a : Array Value) : sQ v a s (.returned v) t := ⟨rfl, hS.F ht⟩
set_option maxHeartbeats 4000000 in
set_option maxRecDepth 100000 in
theorem sc_coder (l : Launch) (aK aV : Nat) : sMet l aK aV yJ0_coder_7d493 cJ0_coder_7d493 1 (some .byte) 0 0 [.ref aK] (some (.int 0)) := by
  refine Met.ofW (cc := cJ0_coder_7d493) (maxL := 1) (ret := some .byte) (by decide) rfl ?_
  intro p e s m args below meth cd s₁ B hml hv
  obtain ⟨rfl, hT⟩ := hv
  have X := sx_entry (own := RJ0) B hml hT rfl
  obtain ⟨hx, hb, -, hown, hts, -⟩ := id X
  have hr := B.returns
  have hlocks := B.notSynchronized
  have hS : va_S sNo s.heap s.heap [] := va_S.rf
  have hl := lv_entry ([.ref aK]) (n := 1) (Nat.le_of_ble_eq_true rfl)
  rw [lg_entry_eq]
  generalize (lg_sl ([.ref aK]) ++ List.replicate (1 - (lg_sl ([.ref aK])).length) Slot.unset).toArray = ls at hl ⊢
  have hl : lv_has ls 1 [(0, .ref aK)] := hl
  refine va_gets hx hb hT.2.2.2.2.1 hS hown (hts _ wd_2_17) (fun _ h => h) dJ0_coder_7d493_0 ?_
  refine lv_if_eq (tgt := 13) hx hb dJ0_coder_7d493_3 (by decide) (fun h => absurd h (by decide)) (fun _ => ?_)
  refine lv_aload_n hx hb dJ0_coder_7d493_6 rfl (lv_at hl 0 rfl) ?_
  refine vk_getf hx hb hT.2.1 hS hown (hts _ wd_2_18) (fun _ h => h) dJ0_coder_7d493_7 ?_
  refine lv_goto (tgt := 14) hx hb dJ0_coder_7d493_10 (by decide) ?_
  exact W.zret hx hb hr rfl (fun t ht hW => sx_end hS t ht _) hS.2.2 dJ0_coder_7d493_14
set_option maxHeartbeats 4000000 in
set_option maxRecDepth 100000 in
theorem sc_isLatin1 (l : Launch) (aK aV : Nat) : sMet l aK aV yJ0_isLatin1_aae02 cJ0_isLatin1_aae02 1 (some .boolean) 0 0 [.ref aK] (some (.int 1)) := by
  refine Met.ofW (cc := cJ0_isLatin1_aae02) (maxL := 1) (ret := some .boolean) (by decide) rfl ?_
  intro p e s m args below meth cd s₁ B hml hv
  obtain ⟨rfl, hT⟩ := hv
  have X := sx_entry (own := RJ0) B hml hT rfl
  obtain ⟨hx, hb, -, hown, hts, -⟩ := id X
  have hr := B.returns
  have hlocks := B.notSynchronized
  have hS : va_S sNo s.heap s.heap [] := va_S.rf
  have hl := lv_entry ([.ref aK]) (n := 1) (Nat.le_of_ble_eq_true rfl)
  rw [lg_entry_eq]
  generalize (lg_sl ([.ref aK]) ++ List.replicate (1 - (lg_sl ([.ref aK])).length) Slot.unset).toArray = ls at hl ⊢
  have hl : lv_has ls 1 [(0, .ref aK)] := hl
  refine va_gets hx hb hT.2.2.2.2.1 hS hown (hts _ wd_2_17) (fun _ h => h) dJ0_isLatin1_aae02_0 ?_
  refine lv_if_eq (tgt := 17) hx hb dJ0_isLatin1_aae02_3 (by decide) (fun h => absurd h (by decide)) (fun _ => ?_)
  refine lv_aload_n hx hb dJ0_isLatin1_aae02_6 rfl (lv_at hl 0 rfl) ?_
  refine vk_getf hx hb hT.2.1 hS hown (hts _ wd_2_18) (fun _ h => h) dJ0_isLatin1_aae02_7 ?_
  refine lv_if_ne (tgt := 17) hx hb dJ0_isLatin1_aae02_10 (by decide) (fun h => absurd rfl h) (fun _ => ?_)
  refine lv_iconst (v := (1 : Int32)) hx hb dJ0_isLatin1_aae02_13 (by decide) ?_
  refine lv_goto (tgt := 18) hx hb dJ0_isLatin1_aae02_14 (by decide) ?_
  exact W.zret hx hb hr rfl (fun t ht hW => sx_end hS t ht _) hS.2.2 dJ0_isLatin1_aae02_18
theorem hd_coder : yJ0_coder_7d493.cls = RJ0 ∧ yJ0_coder_7d493.cls ≠ "java/lang/invoke/MethodHandle" ∧ yJ0_coder_7d493.cls ≠ "java/lang/invoke/VarHandle" ∧ (parseMethodDescriptor yJ0_coder_7d493.desc).map (fun d => d.parameters.length) = some 0 := by decide +kernel
theorem hd_isLatin1 : yJ0_isLatin1_aae02.cls = RJ0 ∧ yJ0_isLatin1_aae02.cls ≠ "java/lang/invoke/MethodHandle" ∧ yJ0_isLatin1_aae02.cls ≠ "java/lang/invoke/VarHandle" ∧ (parseMethodDescriptor yJ0_isLatin1_aae02.desc).map (fun d => d.parameters.length) = some 0 := by decide +kernel
theorem hd_length : yJ0_length_8abf5.cls = RJ0 ∧ yJ0_length_8abf5.cls ≠ "java/lang/invoke/MethodHandle" ∧ yJ0_length_8abf5.cls ≠ "java/lang/invoke/VarHandle" ∧ (parseMethodDescriptor yJ0_length_8abf5.desc).map (fun d => d.parameters.length) = some 0 := by decide +kernel
theorem hd_charAt : yJ0_charAt_5068e.cls = RJ0 ∧ yJ0_charAt_5068e.cls ≠ "java/lang/invoke/MethodHandle" ∧ yJ0_charAt_5068e.cls ≠ "java/lang/invoke/VarHandle" ∧ (parseMethodDescriptor yJ0_charAt_5068e.desc).map (fun d => d.parameters.length) = some 1 := by decide +kernel
theorem hd_pck : yJ3_checkIndex_8e157.cls ≠ "java/lang/invoke/MethodHandle" ∧ yJ3_checkIndex_8e157.cls ≠ "java/lang/invoke/VarHandle" ∧ (parseMethodDescriptor yJ3_checkIndex_8e157.desc).map (fun d => d.parameters.length) = some 3 := by decide +kernel
theorem hd_sck : yJ0_checkIndex_df160.cls ≠ "java/lang/invoke/MethodHandle" ∧ yJ0_checkIndex_df160.cls ≠ "java/lang/invoke/VarHandle" ∧ (parseMethodDescriptor yJ0_checkIndex_df160.desc).map (fun d => d.parameters.length) = some 2 := by decide +kernel
theorem hd_lch : yJ1_charAt_3b067.cls ≠ "java/lang/invoke/MethodHandle" ∧ yJ1_charAt_3b067.cls ≠ "java/lang/invoke/VarHandle" ∧ (parseMethodDescriptor yJ1_charAt_3b067.desc).map (fun d => d.parameters.length) = some 2 := by decide +kernel
set_option maxHeartbeats 4000000 in
set_option maxRecDepth 100000 in
theorem sc_len (l : Launch) (aK aV : Nat) : sMet l aK aV yJ0_length_8abf5 cJ0_length_8abf5 1 (some .int) 1 20 [.ref aK] (some (.int 16)) := by
  refine Met.ofW (cc := cJ0_length_8abf5) (maxL := 1) (ret := some .int) (by decide) rfl ?_
  intro p e s m args below meth cd s₁ B hml hv
  obtain ⟨rfl, hT⟩ := hv
  have X := sx_entry (own := RJ0) B hml hT rfl
  obtain ⟨hx, hb, -, hown, hts, -⟩ := id X
  have hr := B.returns
  have hlocks := B.notSynchronized
  have hS : va_S sNo s.heap s.heap [] := va_S.rf
  have hl := lv_entry ([.ref aK]) (n := 1) (Nat.le_of_ble_eq_true rfl)
  rw [lg_entry_eq]
  generalize (lg_sl ([.ref aK]) ++ List.replicate (1 - (lg_sl ([.ref aK])).length) Slot.unset).toArray = ls at hl ⊢
  have hl : lv_has ls 1 [(0, .ref aK)] := hl
  refine lv_aload_n hx hb dJ0_length_8abf5_0 rfl (lv_at hl 0 rfl) ?_
  refine vk_getf hx hb hT.2.2.1 hS hown (hts _ wd_2_12) (fun _ h => h) dJ0_length_8abf5_1 ?_
  refine va_tlen (v := (16 : Int32)) hx hb hT.2.2.2.1 hS rfl dJ0_length_8abf5_4 ?_
  refine lv_aload_n hx hb dJ0_length_8abf5_5 rfl (lv_at hl 0 rfl) ?_
  refine sx_callV (As := []) (rest := [.int 16]) (st1 := [.int 0, .int 16]) X hS hl.1 (sc_coder l aK aV) wd_2_13 wd_2_14 wd_2_15 wd_2_16 hd_coder ⟨Nat.le_of_ble_eq_true rfl, Nat.le_of_ble_eq_true rfl⟩ ⟨Nat.zero_le _, Nat.zero_le _⟩ (Nat.le_of_ble_eq_true rfl) rfl rfl dJ0_length_8abf5_6 (fun H locs _ _ hS => ?_)
  refine lv_ishr hx hb dJ0_length_8abf5_9 ?_
  exact W.iret hx hb hr (fun t ht hW => sx_end hS t ht _) hS.2.2 dJ0_length_8abf5_10
set_option maxHeartbeats 4000000 in
set_option maxRecDepth 100000 in
theorem sc_pck (l : Launch) (aK aV : Nat) {i n : Int32} {f : Value} (hf : f = .null ∨ ∃ t : Nat, f = .ref t) (h0 : ¬ i < 0) (h1 : i < n) : sMet l aK aV yJ3_checkIndex_8e157 cJ3_checkIndex_8e157 3 (some .int) 0 0 [.int i, .int n, f] (some (.int i)) := by
  refine Met.ofW (cc := cJ3_checkIndex_8e157) (maxL := 3) (ret := some .int) (by decide) rfl ?_
  intro p e s m args below meth cd s₁ B hml hv
  obtain ⟨rfl, hT⟩ := hv
  have X := sx_entry (own := RJ3) B hml hT rfl
  obtain ⟨hx, hb, -, hown, hts, -⟩ := id X
  have hr := B.returns
  have hlocks := B.notSynchronized
  have hS : va_S sNo s.heap s.heap [] := va_S.rf
  have key : ∀ (R : Room) (ls : Array Slot), lv_has ls 3 [(0, .int i), (1, .int n)] → W p l e R s m [Value.int i, .int n, f].toArray below meth cd s.heap [] 0 0 (MQ below (sQ (some (.int i))) [Value.int i, .int n, f].toArray s 0 0 sNo) (F0 m 0 ls []) := fun R ls hl => by
    refine lv_iload_n hx hb dJ3_checkIndex_8e157_0 rfl (lv_at hl 0 rfl) ?_
    refine lv_if_lt (tgt := 9) hx hb dJ3_checkIndex_8e157_1 (by decide) (fun h => absurd h h0) (fun _ => ?_)
    refine lv_iload_n hx hb dJ3_checkIndex_8e157_4 rfl (lv_at hl 0 rfl) ?_
    refine lv_iload_n hx hb dJ3_checkIndex_8e157_5 rfl (lv_at hl 1 rfl) ?_
    refine lv_icmp_lt (tgt := 16) hx hb dJ3_checkIndex_8e157_6 (by decide) (fun _ => ?_) (fun h => absurd h1 h)
    refine lv_iload_n hx hb dJ3_checkIndex_8e157_16 rfl (lv_at hl 0 rfl) ?_
    exact W.iret hx hb hr (fun t ht hW => sx_end hS t ht _) hS.2.2 dJ3_checkIndex_8e157_17
  rcases hf with rfl | ⟨t, rfl⟩
  · have hl := lv_entry ([.int i, .int n, .null]) (n := 3) (Nat.le_of_ble_eq_true rfl)
    rw [lg_entry_eq]
    generalize (lg_sl ([.int i, .int n, .null]) ++ List.replicate (3 - (lg_sl ([.int i, .int n, .null])).length) Slot.unset).toArray = ls at hl ⊢
    exact key _ ls (lv_sub (l := [(0, .int i), (1, .int n), (2, .null)]) hl [0, 1] rfl)
  · have hl := lv_entry ([.int i, .int n, .ref t]) (n := 3) (Nat.le_of_ble_eq_true rfl)
    rw [lg_entry_eq]
    generalize (lg_sl ([.int i, .int n, .ref t]) ++ List.replicate (3 - (lg_sl ([.int i, .int n, .ref t])).length) Slot.unset).toArray = ls at hl ⊢
    exact key _ ls (lv_sub (l := [(0, .int i), (1, .int n), (2, .ref t)]) hl [0, 1] rfl)
set_option maxHeartbeats 4000000 in
set_option maxRecDepth 100000 in
theorem sc_sck (l : Launch) (aK aV : Nat) {i n : Int32} (h0 : ¬ i < 0) (h1 : i < n) : sMet l aK aV yJ0_checkIndex_df160 cJ0_checkIndex_df160 2 none 1 22 [.int i, .int n] none := by
  refine Met.ofW (cc := cJ0_checkIndex_df160) (maxL := 2) (ret := none) (by decide) rfl ?_
  intro p e s m args below meth cd s₁ B hml hv
  obtain ⟨rfl, hT⟩ := hv
  have X := sx_entry (own := RJ0) B hml hT rfl
  obtain ⟨hx, hb, -, hown, hts, -⟩ := id X
  have hr := B.returns
  have hlocks := B.notSynchronized
  have hS : va_S sNo s.heap s.heap [] := va_S.rf
  have hl := lv_entry ([.int i, .int n]) (n := 2) (Nat.le_of_ble_eq_true rfl)
  rw [lg_entry_eq]
  generalize (lg_sl ([.int i, .int n]) ++ List.replicate (2 - (lg_sl ([.int i, .int n])).length) Slot.unset).toArray = ls at hl ⊢
  have hl : lv_has ls 2 [(0, .int i), (1, .int n)] := hl
  refine lv_iload_n hx hb dJ0_checkIndex_df160_0 rfl (lv_at hl 0 rfl) ?_
  refine lv_iload_n hx hb dJ0_checkIndex_df160_1 rfl (lv_at hl 1 rfl) ?_
  have go : ∀ (R : Room) (f : Value), (1 ≤ R.frames ∧ 22 ≤ R.locals) → (f = .null ∨ ∃ t : Nat, f = .ref t) → W p l e R s m [Value.int i, .int n].toArray below meth cd s.heap [] 0 0 (MQ below (sQ none) [Value.int i, .int n].toArray s 0 0 sNo) (F0 m 5 ls [f, .int n, .int i]) := fun R f hR hf => by
    refine sx_callS (As := [.int i, .int n, f]) (rest := []) (st1 := [.int i]) X hS hl.1 (sc_pck l aK aV hf h0 h1) wd_3_11 wd_3_12 wd_3_13 wd_3_14 hd_pck hR ⟨Nat.zero_le _, Nat.zero_le _⟩ (Nat.le_of_ble_eq_true rfl) rfl rfl dJ0_checkIndex_df160_5 (fun H locs _ _ hS => ?_)
    refine lv_pop hx hb dJ0_checkIndex_df160_8 rfl ?_
    exact W.vret hx hb hr (fun t ht hW => sx_end hS t ht _) hS.2.2 dJ0_checkIndex_df160_9
  rcases hT.2.2.2.2.2 with hz | ⟨t, hz⟩
  · exact va_gets hx hb hz hS hown (hts _ wd_3_10) (fun _ h => h) dJ0_checkIndex_df160_2 (go _ _ ⟨Nat.le_of_ble_eq_true rfl, Nat.le_of_ble_eq_true rfl⟩ (Or.inl rfl))
  · exact va_gets hx hb hz hS hown (hts _ wd_3_10) (fun _ h => h) dJ0_checkIndex_df160_2 (go _ _ ⟨Nat.le_of_ble_eq_true rfl, Nat.le_of_ble_eq_true rfl⟩ (Or.inr ⟨t, rfl⟩))
theorem cd0_c : ∀ i : Fin 16, ((cd0 i.1 &&& 255).toUInt32 % 65536).toInt32 = cd0 i.1 ∧ narrow .char (.int (cd0 i.1)) = .int (cd0 i.1) := by decide +kernel
set_option maxHeartbeats 4000000 in
set_option maxRecDepth 100000 in
theorem sc_lch (l : Launch) (aK aV : Nat) {i : Nat} (hi : i < 16) : sMet l aK aV yJ1_charAt_3b067 cJ1_charAt_3b067 2 (some .char) 2 43 [.ref aV, .int (nI i)] (some (.int (cd0 i))) := by
  have h0 : ¬ nI i < 0 := nI_pos (by omega)
  have h1 : nI i < 16 := nI_lt (b := 16) hi (by decide)
  refine Met.ofW (cc := cJ1_charAt_3b067) (maxL := 2) (ret := some .char) (by decide) rfl ?_
  intro p e s m args below meth cd s₁ B hml hv
  obtain ⟨rfl, hT⟩ := hv
  have X := sx_entry (own := RJ1) B hml hT rfl
  obtain ⟨hx, hb, -, hown, hts, -⟩ := id X
  have hr := B.returns
  have hlocks := B.notSynchronized
  have hS : va_S sNo s.heap s.heap [] := va_S.rf
  have hl := lv_entry ([.ref aV, .int (nI i)]) (n := 2) (Nat.le_of_ble_eq_true rfl)
  rw [lg_entry_eq]
  generalize (lg_sl ([.ref aV, .int (nI i)]) ++ List.replicate (2 - (lg_sl ([.ref aV, .int (nI i)])).length) Slot.unset).toArray = ls at hl ⊢
  have hl : lv_has ls 2 [(0, .ref aV), (1, .int (nI i))] := hl
  refine lv_iload_n hx hb dJ1_charAt_3b067_0 rfl (lv_at hl 1 rfl) ?_
  refine lv_aload_n hx hb dJ1_charAt_3b067_1 rfl (lv_at hl 0 rfl) ?_
  refine va_tlen (v := (16 : Int32)) hx hb hT.2.2.2.1 hS rfl dJ1_charAt_3b067_2 ?_
  refine sx_callS (As := [.int (nI i), .int 16]) (rest := []) (st1 := []) X hS hl.1 (sc_sck l aK aV h0 h1) wd_3_7 wd_3_8 wd_2_10 wd_3_9 hd_sck ⟨Nat.le_of_ble_eq_true rfl, Nat.le_of_ble_eq_true rfl⟩ ⟨Nat.zero_le _, Nat.zero_le _⟩ (Nat.le_of_ble_eq_true rfl) rfl rfl dJ1_charAt_3b067_3 (fun H locs _ _ hS => ?_)
  refine lv_aload_n hx hb dJ1_charAt_3b067_6 rfl (lv_at hl 0 rfl) ?_
  refine lv_iload_n hx hb dJ1_charAt_3b067_7 rfl (lv_at hl 1 rfl) ?_
  refine va_tb (v := .int (cd0 i)) hx hb hT.2.2.2.1 hS (vp_in_nI hi (by omega)) (by rw [nI_clamp (by omega)]) dJ1_charAt_3b067_8 ?_
  refine lv_sipush (v := (255 : Int32)) hx hb dJ1_charAt_3b067_9 (by decide) ?_
  refine lv_iand hx hb dJ1_charAt_3b067_12 ?_
  refine lv_i2c (v := cd0 i) hx hb dJ1_charAt_3b067_13 (cd0_c ⟨i, hi⟩).1 ?_
  exact W.zret hx hb hr (cd0_c ⟨i, hi⟩).2 (fun t ht hW => sx_end hS t ht _) hS.2.2 dJ1_charAt_3b067_14
set_option maxHeartbeats 4000000 in
set_option maxRecDepth 100000 in
theorem sc_char (l : Launch) (aK aV : Nat) {i : Nat} (hi : i < 16) : sMet l aK aV yJ0_charAt_5068e cJ0_charAt_5068e 2 (some .char) 3 64 [.ref aK, .int (nI i)] (some (.int (cd0 i))) := by
  refine Met.ofW (cc := cJ0_charAt_5068e) (maxL := 2) (ret := some .char) (by decide) rfl ?_
  intro p e s m args below meth cd s₁ B hml hv
  obtain ⟨rfl, hT⟩ := hv
  have X := sx_entry (own := RJ0) B hml hT rfl
  obtain ⟨hx, hb, -, hown, hts, -⟩ := id X
  have hr := B.returns
  have hlocks := B.notSynchronized
  have hS : va_S sNo s.heap s.heap [] := va_S.rf
  have hl := lv_entry ([.ref aK, .int (nI i)]) (n := 2) (Nat.le_of_ble_eq_true rfl)
  rw [lg_entry_eq]
  generalize (lg_sl ([.ref aK, .int (nI i)]) ++ List.replicate (2 - (lg_sl ([.ref aK, .int (nI i)])).length) Slot.unset).toArray = ls at hl ⊢
  have hl : lv_has ls 2 [(0, .ref aK), (1, .int (nI i))] := hl
  refine lv_aload_n hx hb dJ0_charAt_5068e_0 rfl (lv_at hl 0 rfl) ?_
  refine sx_callV (As := []) (rest := []) (st1 := [.int 1]) X hS hl.1 (sc_isLatin1 l aK aV) wd_2_23 wd_3_0 wd_3_1 wd_3_2 hd_isLatin1 ⟨Nat.le_of_ble_eq_true rfl, Nat.le_of_ble_eq_true rfl⟩ ⟨Nat.zero_le _, Nat.zero_le _⟩ (Nat.le_of_ble_eq_true rfl) rfl rfl dJ0_charAt_5068e_1 (fun H locs _ _ hS => ?_)
  refine lv_if_eq (tgt := 16) hx hb dJ0_charAt_5068e_4 (by decide) (fun h => absurd h (by decide)) (fun _ => ?_)
  refine lv_aload_n hx hb dJ0_charAt_5068e_7 rfl (lv_at hl 0 rfl) ?_
  refine vk_getf hx hb hT.2.2.1 hS hown (hts _ wd_2_12) (fun _ h => h) dJ0_charAt_5068e_8 ?_
  refine lv_iload_n hx hb dJ0_charAt_5068e_11 rfl (lv_at hl 1 rfl) ?_
  refine sx_callS (As := [.ref aV, .int (nI i)]) (rest := []) (st1 := [.int (cd0 i)]) X hS hl.1 (sc_lch l aK aV hi) wd_3_3 wd_3_4 wd_3_5 wd_3_6 hd_lch ⟨Nat.le_of_ble_eq_true rfl, Nat.le_of_ble_eq_true rfl⟩ ⟨Nat.zero_le _, Nat.zero_le _⟩ (Nat.le_of_ble_eq_true rfl) rfl rfl dJ0_charAt_5068e_12 (fun H locs _ _ hS => ?_)
  exact W.zret hx hb hr (cd0_c ⟨i, hi⟩).2 (fun t ht hW => sx_end hS t ht _) hS.2.2 dJ0_charAt_5068e_15
