/-! THE CLAIM OUT OF ONE WALK OF THE LAW'S BODY. Your part is whole_start (and what it stands on); all else here is the same for every law, but numbers. -/
def R_law : String := "PeatRailwayLaw"
def lw_P (b : Addr) (xs : List Int32) (args : Array Value) (s : State) : Prop := args = #[.ref b] ∧ s.IntsAt b xs ∧ xs.length ≤ 260 ∧ (Jvm.Cond.and given_1 narrow_1).before args s = true
/-- what a walk over the start with the record d0 says of its end, said of the start itself -/
theorem lw_closed {s t : State} {o : Outcome} {d0 : Drawn} {L : List Loc} {k n : Nat} (hd0 : s.drawn.sameBut d0 lw_cs) (hv : ∃ v, o = .returned v) (hW : (s.setDrawn d0).WarmedH t.vm) (hs : (s.setDrawn d0).sameButNew ({ t with vm := s.vm } : State) L k n) : State.butDraws s t lw_cs (fun t1 => Framed s o t1 L k n) := by
  have h2 : t.drawn = d0 := congrArg State.drawn hs.1
  refine ⟨⟨hv, hW, State.sameButNew.setDrawn hs s.drawn⟩, ?_, by decide⟩
  rw [h2]
  exact hd0
def lw_Q (_ : Array Value) (s : State) (o : Outcome) (t : State) : Prop := o = .returned (some (.int 1)) ∧ State.butDraws s t lw_cs (fun t1 => Framed s o t1 [] 600000 7302249)
def lw_Z (below : List Frame) (a : Array Value) (s : State) : State → Prop := fun t => ∃ o, t.status = .running ∧ Ended t below o ∧ lw_Q a s o t
/-- the law's own end, with 1 on the stack, nothing written that was there before, its room as the claim has it; d0: the record of draws at this point (at the entry s.drawn: begin with 'refine W.base ?_' and 'have hd0 := Drawn.sameBut.refl s.drawn lw_cs') -/
theorem lw_ret {p : Program} {l : Launch} {e : Env} {s : State} {m : MethodId} {below : List Frame} {meth : Method} {c : Code} {b : Nat} {d0 : Drawn} (hd0 : s.drawn.sameBut d0 lw_cs) (hx : p.tables.exec = Jvm.exec) (hb : c.code = code) (hr : meth.sig.returnType = ret) (hlocks : meth.locks = false) {pc : Nat} {H : Heap} {ls : Array Slot} (hdg : decode code pc = .ok (.ireturn, 1)) : W p l e room_1 (s.setDrawn d0) m #[Value.ref b] below meth c H [] 600000 7302249 (lw_Z below #[Value.ref b] s) (F0 m pc ls [.int 1]) := by
  intro T hT X
  obtain ⟨fs, hret, hrun, hended, hW, hframe⟩ := X.leave (v := some (.int 1)) (hlocks := hlocks) (fun h => by rw [hr] at h; cases h)
  have hmeth' : T.vm.method? m = some meth := X.method'
  refine ⟨T.setFrames fs, ?_, .returned (some (.int 1)), hrun, hended, rfl, lw_closed hd0 ⟨_, rfl⟩ hW hframe⟩
  jvm_step X.here [X.here.top, hx, hb, hdg, hmeth', hr, ret, narrow_b1]
  (try refine ⟨rfl, ?_⟩); (try refine ⟨rfl, ?_⟩)
  first | (intro acts; rw [hret _ acts rfl rfl rfl]) | rw [hret _ _ rfl rfl rfl]
  exact Steps.refl _
/-- what holds at the law's entry: the machine, the code, the tables' words (any of lw_tbl by 'hts w (by decide +kernel)'), the script of L ints xs at the cell b, what the Statement gives of the start (any of its parts by flat_of_before) -/
def lw_At (p : Program) (s : State) (m : MethodId) (meth : Method) (c : Code) (b L : Nat) (xs : Nat → Int32) : Prop :=
  p.tables.exec = Jvm.exec ∧ c.code = code ∧ meth.sig.returnType = ret ∧ c.maxLocals = 12 ∧ s.vm.findClass R_law = some m.cls ∧ (∀ w ∈ lw_tbl, w.before #[Value.ref b] s = true) ∧ va_X b L xs s s.heap ∧ b < s.heap.size ∧ meth.locks = false ∧ (Jvm.Cond.and given_1 narrow_1).before #[Value.ref b] s = true
theorem eRow_A {E : mE} {r q : Nat} (hI : ∀ c ∈ mI E, c < r) {x : Nat} (h : mA (eRow E r q) x) : mA E x ∨ x = q := by
  obtain ⟨c, hc, rfl⟩ := h
  rcases List.mem_append.mp (show c ∈ mI E ++ [r] from hc) with h | h
  · exact Or.inl ⟨c, h, (fset_n (by have := hI c h; omega)).symm⟩
  · rw [List.mem_singleton.mp h]
    exact Or.inr (fset_s _ _ _)
theorem eRow_I {E : mE} {r q : Nat} (hI : ∀ c ∈ mI E, c < r) : ∀ c ∈ mI (eRow E r q), c < r + 1 := fun c hc => by
  rcases List.mem_append.mp (show c ∈ mI E ++ [r] from hc) with h | h
  · have := hI c h; omega
  · rw [List.mem_singleton.mp h]; omega
def E6 (E : mE) (a b c d e f : Nat) : mE := eRow (eRow (eRow (eRow (eRow (eRow E 246 a) 247 b) 248 c) 249 d) 250 e) 251 f
theorem E6_o {E : mE} {a b c d e f k : Nat} (h : k < 246) : mad (E6 E a b c d e f) k = mad E k := by
  show fset (fset (fset (fset (fset (fset (mad E) 246 a) 247 b) 248 c) 249 d) 250 e) 251 f k = mad E k
  rw [fset_n (by omega), fset_n (by omega), fset_n (by omega), fset_n (by omega), fset_n (by omega), fset_n (by omega)]
set_option maxRecDepth 10000 in
theorem r252 : (((((List.range 246 ++ [246]) ++ [247]) ++ [248]) ++ [249]) ++ [250]) ++ [251] = List.range 252 := by decide +kernel
set_option maxHeartbeats 4000000 in
set_option maxRecDepth 100000 in
/-- THE LAW, from its entry -/
theorem whole_start {p : Program} {e : Env} {s : State} {m : MethodId} {below : List Frame} {meth : Method} {c : Code} (l : Launch) (hflags : l.flags = flags0) {b L : Nat} {xs : Nat → Int32} (hL : L ≤ 260) (C0 : lw_At p s m meth c b L xs) : W p l e room_1 s m #[Value.ref b] below meth c s.heap [] 0 0 (lw_Z below #[Value.ref b] s) (entryFrame m ([Value.ref b] : List Value).toArray 12) := by
  obtain ⟨hx, hb, hr, hml, hown, htb, hX, hbl, hlocks, hgv⟩ := id C0
  have hts : ∀ w ∈ wsL_law, w.before #[Value.ref b] s = true := fun w h => htb w (wl_all w h)
  have hG := nG_of htb
  obtain ⟨A, hAe⟩ : ∃ A : Nat → Prop, A = fun q => s.heap.size ≤ q := ⟨_, rfl⟩
  have hA : ∀ q : Nat, s.heap.size ≤ q → A q := fun q h => by rw [hAe]; exact h
  have hAs : ∀ q : Nat, A q → s.heap.size ≤ q := fun q h => by rw [hAe] at h; exact h
  have hAn : ∀ a : Nat, a < s.heap.size → ¬ A a := fun a h q => Nat.not_le.mpr h (hAs a q)
  have hSS := sS_of htb hgv hAn
  obtain ⟨aK, aV, hT, hZ⟩ := sT_of htb hgv hAn
  obtain ⟨D, Y, hK⟩ := k_start hts hG
  obtain ⟨A0, hlay, hRel, hfr⟩ := rel_start
  have hS : va_S A s.heap s.heap [] := va_S.rf
  have hl := lv_entry ([.ref b]) (n := 12) (Nat.le_of_ble_eq_true rfl)
  rw [lg_entry_eq]
  generalize (lg_sl ([.ref b]) ++ List.replicate (12 - (lg_sl ([.ref b])).length) Slot.unset).toArray = ls at hl ⊢
  have hl : lv_has ls 12 [(0, .ref b)] := hl
  have hP0 : va_P D vwCl [] s.heap := fun k q h => by simp at h
  have hD0 : va_D A [] := ⟨fun i j p q h => by simp at h, fun k q h => by simp at h⟩
  refine va_new (ci := 5) (fs := vo5) (C := RX5) (T := TX5) (N := 6) hx hb hts inlX5 tyX5 tyX5_ok hown (hts _ wd_1_0) (hts _ wd_1_1) (hts _ wd_1_2) hK hP0 hD0 hS hA rfl (fun j hj => by rcases (show j = 0 ∨ j = 1 ∨ j = 2 ∨ j = 3 ∨ j = 4 ∨ j = 5 by omega) with rfl | rfl | rfl | rfl | rfl | rfl <;> rfl) (Nat.le_of_ble_eq_true rfl) (Nat.le_of_ble_eq_true rfl) dL_law_0 (fun q1 H1 hP1 hD1 hS1 => ?_)
  refine lv_dup hx hb dL_law_3 rfl ?_
  have hA1 : ∀ z : Nat, H1.size ≤ z → A z := fun z hz => hA z (Nat.le_trans hS1.1 hz)
  have hq1 : A q1 := hD1.2 0 (q1, .inr (5, vo5)) rfl
  have hAc := nc_A (x := .inr (5, vo5)) hq1 hA1
  have hP1 : va_P D vwCl [(q1, .inr (5, vo5))] H1 := hP1
  refine va_callv (va_runI (As := []) (rest := [.ref q1]) ⟨hx, hb, hml, hown, hts⟩ (i_Rail l D Y q1 H1.size aK aV "0p,4,4,2p,4,4,0p" hlay hfr) (cwI 0 hts (mx_good (fun w hw => by rcases List.mem_cons.mp hw with rfl | hw; exact wd_1_7; exact hw)) rfl rfl rfl (hts _ wd_1_2) (hts _ wd_1_5) (hts _ wd_1_6) rfl (by decide +kernel) ⟨Nat.le_of_ble_eq_true rfl, Nat.le_of_ble_eq_true rfl⟩) ⟨fun a U g mk q => by obtain ⟨q0, q1, qP, qK, qG, qF, qT, qZ⟩ := q; exact ⟨q0, q1, qP, va_K.moved (u := U) (U := U.calling g mk a) (Vm.Alike.refl U.vm) qK, qG, qF, qT, vk_R.same (u := U) rfl qZ⟩, fun U hU hW => ⟨rfl, by rw [hU], by rw [hU]; exact hP1, va_K.moved hW.alike hK, hG.warm hW, by rw [hU]; exact (((hSS.kept (fun a h1 h2 => hS1.2.1 a h1 h2)).moved hW.alike).narrow hAc), by rw [hU]; exact (((hT.kept (fun a h1 h2 => hS1.2.1 a h1 h2)).moved hW.alike).narrow hAc), hZ.warm hW⟩⟩ rfl rfl hl.1 rfl (lv_room (Nat.le_of_ble_eq_true rfl)) dL_law_4 ⟨Nat.le_of_ble_eq_true rfl, Nat.le_of_ble_eq_true rfl⟩) hS1 (fun x _ h => hAc x h) hAc (fun u t H2 locs2 ht hvm hw hB hz1 hk1 hS2 => ?_)
  obtain ⟨hPE, hDE⟩ := hB
  rw [ht] at hPE
  have hw : u 240 = q1 := hw
  have hDA : va_D A (mws (D, Y, u, List.range 246) (up2 A0 241 1 0)) := hDE.weaken (fun _ _ _ h => hAc _ h)
  rw [← hw]
  refine lv_astore_n (lv' := [(1, .ref (u 240)), (0, .ref b)]) hx hb dL_law_7 rfl hl (by decide) rfl (fun ls hl => ?_)
  refine va_forget (fun q hq => hAs _ (hS2.2.2 q hq)) ?_
  obtain ⟨E0, hE0⟩ : ∃ E0 : mE, E0 = (D, Y, u, List.range 246) := ⟨_, rfl⟩
  have e240 : u 240 = mad E0 240 := by rw [hE0]
  have hI0 : mI E0 = List.range 246 := by rw [hE0]
  rw [← hE0] at hPE hDA
  rw [e240] at hl
  have hK0 : mK E0 s := by rw [hE0]; exact hK
  have X0 : mX p s m #[.ref b] c cL_law 12 RL E0 := ⟨hx, hb, hml, hown, hts, hK0, mJ_of hDA, hSS.mS (mA_of hDA)⟩
  have Z0 : mZ E0 s.heap H2 [] (up2 A0 241 1 0) := ⟨hPE, hS2.1, fun q h1 _ => hS2.2.1 q h1 (hAn q h1), fun _ h => absurd h List.not_mem_nil⟩
  have f0 : h244 (up2 A0 241 1 0) := rel244 hRel
  have i0 : ∀ c ∈ mI E0, c < 246 := fun c hc => List.mem_range.mp (hI0 ▸ hc)
  have old0 : ∀ x, mA E0 x → s.heap.size ≤ x := fun x hx => hAs x (mA_of hDA x hx)
  refine lv_bipush (v := (10 : Int32)) hx hb dL_law_8 (by decide) ?_
  refine mx_newa (r := 246) (N := 10) X0 Z0 f0 i0 (by decide) (by decide) (by decide) rfl (Nat.le_of_ble_eq_true rfl) (Nat.le_of_ble_eq_true rfl) (Nat.le_of_ble_eq_true rfl) dL_law_10 (fun r1 H hq101 _ X1 Z1 => ?_)
  refine lv_astore_n (lv' := [(2, .ref r1), (1, .ref (mad E0 240)), (0, .ref b)]) hx hb dL_law_12 rfl hl (by decide) rfl (fun ls hl => ?_)
  have f1 : h244 (rz (up2 A0 241 1 0) 246) := fun j hj => by rw [rz_o (by decide)]; exact f0 j hj
  have i1 : ∀ c ∈ mI (eRow E0 246 r1), c < 247 := eRow_I i0
  have old1 : ∀ x, mA (eRow E0 246 r1) x → s.heap.size ≤ x := fun x hx => by
    rcases eRow_A i0 hx with h | h
    · exact old0 x h
    · rw [h]; exact hq101
  refine lv_bipush (v := (24 : Int32)) hx hb dL_law_13 (by decide) ?_
  refine mx_newa (r := 247) (N := 24) X1 Z1 f1 i1 (by decide) (by decide) (by decide) rfl (Nat.le_of_ble_eq_true rfl) (Nat.le_of_ble_eq_true rfl) (Nat.le_of_ble_eq_true rfl) dL_law_15 (fun r2 H hq102 _ X2 Z2 => ?_)
  refine lv_astore_n (lv' := [(3, .ref r2), (2, .ref r1), (1, .ref (mad E0 240)), (0, .ref b)]) hx hb dL_law_17 rfl hl (by decide) rfl (fun ls hl => ?_)
  have f2 : h244 (rz (rz (up2 A0 241 1 0) 246) 247) := fun j hj => by rw [rz_o (by decide)]; exact f1 j hj
  have i2 : ∀ c ∈ mI (eRow (eRow E0 246 r1) 247 r2), c < 248 := eRow_I i1
  have old2 : ∀ x, mA (eRow (eRow E0 246 r1) 247 r2) x → s.heap.size ≤ x := fun x hx => by
    rcases eRow_A i1 hx with h | h
    · exact old1 x h
    · rw [h]; exact hq102
  refine lv_bipush (v := (40 : Int32)) hx hb dL_law_18 (by decide) ?_
  refine mx_newa (r := 248) (N := 40) X2 Z2 f2 i2 (by decide) (by decide) (by decide) rfl (Nat.le_of_ble_eq_true rfl) (Nat.le_of_ble_eq_true rfl) (Nat.le_of_ble_eq_true rfl) dL_law_20 (fun r3 H hq103 _ X3 Z3 => ?_)
  refine lv_astore (lv' := [(4, .ref r3), (3, .ref r2), (2, .ref r1), (1, .ref (mad E0 240)), (0, .ref b)]) hx hb dL_law_22 hl (by decide) rfl (fun ls hl => ?_)
  have f3 : h244 (rz (rz (rz (up2 A0 241 1 0) 246) 247) 248) := fun j hj => by rw [rz_o (by decide)]; exact f2 j hj
  have i3 : ∀ c ∈ mI (eRow (eRow (eRow E0 246 r1) 247 r2) 248 r3), c < 249 := eRow_I i2
  have old3 : ∀ x, mA (eRow (eRow (eRow E0 246 r1) 247 r2) 248 r3) x → s.heap.size ≤ x := fun x hx => by
    rcases eRow_A i2 hx with h | h
    · exact old2 x h
    · rw [h]; exact hq103
  refine lv_bipush (v := (10 : Int32)) hx hb dL_law_24 (by decide) ?_
  refine mx_newa (r := 249) (N := 10) X3 Z3 f3 i3 (by decide) (by decide) (by decide) rfl (Nat.le_of_ble_eq_true rfl) (Nat.le_of_ble_eq_true rfl) (Nat.le_of_ble_eq_true rfl) dL_law_26 (fun r4 H hq104 _ X4 Z4 => ?_)
  refine lv_astore (lv' := [(5, .ref r4), (4, .ref r3), (3, .ref r2), (2, .ref r1), (1, .ref (mad E0 240)), (0, .ref b)]) hx hb dL_law_28 hl (by decide) rfl (fun ls hl => ?_)
  have f4 : h244 (rz (rz (rz (rz (up2 A0 241 1 0) 246) 247) 248) 249) := fun j hj => by rw [rz_o (by decide)]; exact f3 j hj
  have i4 : ∀ c ∈ mI (eRow (eRow (eRow (eRow E0 246 r1) 247 r2) 248 r3) 249 r4), c < 250 := eRow_I i3
  have old4 : ∀ x, mA (eRow (eRow (eRow (eRow E0 246 r1) 247 r2) 248 r3) 249 r4) x → s.heap.size ≤ x := fun x hx => by
    rcases eRow_A i3 hx with h | h
    · exact old3 x h
    · rw [h]; exact hq104
  refine lv_bipush (v := (24 : Int32)) hx hb dL_law_30 (by decide) ?_
  refine mx_newa (r := 250) (N := 24) X4 Z4 f4 i4 (by decide) (by decide) (by decide) rfl (Nat.le_of_ble_eq_true rfl) (Nat.le_of_ble_eq_true rfl) (Nat.le_of_ble_eq_true rfl) dL_law_32 (fun r5 H hq105 _ X5 Z5 => ?_)
  refine lv_astore (lv' := [(6, .ref r5), (5, .ref r4), (4, .ref r3), (3, .ref r2), (2, .ref r1), (1, .ref (mad E0 240)), (0, .ref b)]) hx hb dL_law_34 hl (by decide) rfl (fun ls hl => ?_)
  have f5 : h244 (rz (rz (rz (rz (rz (up2 A0 241 1 0) 246) 247) 248) 249) 250) := fun j hj => by rw [rz_o (by decide)]; exact f4 j hj
  have i5 : ∀ c ∈ mI (eRow (eRow (eRow (eRow (eRow E0 246 r1) 247 r2) 248 r3) 249 r4) 250 r5), c < 251 := eRow_I i4
  have old5 : ∀ x, mA (eRow (eRow (eRow (eRow (eRow E0 246 r1) 247 r2) 248 r3) 249 r4) 250 r5) x → s.heap.size ≤ x := fun x hx => by
    rcases eRow_A i4 hx with h | h
    · exact old4 x h
    · rw [h]; exact hq105
  refine lv_bipush (v := (40 : Int32)) hx hb dL_law_36 (by decide) ?_
  refine mx_newa (r := 251) (N := 40) X5 Z5 f5 i5 (by decide) (by decide) (by decide) rfl (Nat.le_of_ble_eq_true rfl) (Nat.le_of_ble_eq_true rfl) (Nat.le_of_ble_eq_true rfl) dL_law_38 (fun r6 H hq106 _ X6 Z6 => ?_)
  refine lv_astore (lv' := [(7, .ref r6), (6, .ref r5), (5, .ref r4), (4, .ref r3), (3, .ref r2), (2, .ref r1), (1, .ref (mad E0 240)), (0, .ref b)]) hx hb dL_law_40 hl (by decide) rfl (fun ls hl => ?_)
  have f6 : h244 (rz (rz (rz (rz (rz (rz (up2 A0 241 1 0) 246) 247) 248) 249) 250) 251) := fun j hj => by rw [rz_o (by decide)]; exact f5 j hj
  have i6 : ∀ c ∈ mI (eRow (eRow (eRow (eRow (eRow (eRow E0 246 r1) 247 r2) 248 r3) 249 r4) 250 r5) 251 r6), c < 252 := eRow_I i5
  have old6 : ∀ x, mA (eRow (eRow (eRow (eRow (eRow (eRow E0 246 r1) 247 r2) 248 r3) 249 r4) 250 r5) 251 r6) x → s.heap.size ≤ x := fun x hx => by
    rcases eRow_A i5 hx with h | h
    · exact old5 x h
    · rw [h]; exact hq106
  have X6 : mX p s m #[.ref b] c cL_law 12 RL (E6 E0 r1 r2 r3 r4 r5 r6) := X6
  have Z6 : mZ (E6 E0 r1 r2 r3 r4 r5 r6) s.heap H [] (rz (rz (rz (rz (rz (rz (up2 A0 241 1 0) 246) 247) 248) 249) 250) 251) := Z6
  have old6 : ∀ x, mA (E6 E0 r1 r2 r3 r4 r5 r6) x → s.heap.size ≤ x := old6
  have hI6 : mI (E6 E0 r1 r2 r3 r4 r5 r6) = List.range 252 := by
    rw [← r252, ← hI0]
    rfl
  have hm6 : ∀ k, k < 252 → k ∈ mI (E6 E0 r1 r2 r3 r4 r5 r6) := fun k hk => by rw [hI6]; exact List.mem_range.mpr hk
  have e6 : mad (E6 E0 r1 r2 r3 r4 r5 r6) 240 = mad E0 240 := E6_o (by decide)
  have hl : lv_has ls 12 [(7, .ref (mad (E6 E0 r1 r2 r3 r4 r5 r6) 251)), (6, .ref (mad (E6 E0 r1 r2 r3 r4 r5 r6) 250)), (5, .ref (mad (E6 E0 r1 r2 r3 r4 r5 r6) 249)), (4, .ref (mad (E6 E0 r1 r2 r3 r4 r5 r6) 248)), (3, .ref (mad (E6 E0 r1 r2 r3 r4 r5 r6) 247)), (2, .ref (mad (E6 E0 r1 r2 r3 r4 r5 r6) 246)), (1, .ref (mad (E6 E0 r1 r2 r3 r4 r5 r6) 240)), (0, .ref b)] := by
    rw [e6]
    exact hl
  obtain ⟨M', hM'⟩ := lLaw L xs hRel
  refine tL_law (cF := 600000) (sF := 7302249) X6 ⟨Nat.le_of_ble_eq_true rfl, Nat.le_of_ble_eq_true rfl⟩ X6.2.2.2.2.2.2.1 ⟨Nat.le_of_ble_eq_true rfl, Nat.le_of_ble_eq_true rfl⟩ ⟨Nat.le_of_ble_eq_true rfl, Nat.le_of_ble_eq_true rfl⟩ hI6 hX hbl (fun q => Nat.not_le.mpr hbl (old6 b q)) hL ⟨rfl, fun r hr => hm6 r (by omega)⟩ (mRow (hm6 246 (by decide)) (by decide)) (mRow (hm6 247 (by decide)) (by decide)) (mRow (hm6 248 (by decide)) (by decide)) (mRow (hm6 249 (by decide)) (by decide)) (mRow (hm6 250 (by decide)) (by decide)) (mRow (hm6 251 (by decide)) (by decide)) _ _ hM' (fun H locs ls pc Z hbl hdg => ?_) H [] ls Z6 hl
  refine va_forget (fun q hq => old6 _ (Z.2.2.2 q hq)) ?_
  refine W.base ?_
  exact lw_ret (Drawn.sameBut.refl s.drawn lw_cs) hx hb hr hlocks hdg
