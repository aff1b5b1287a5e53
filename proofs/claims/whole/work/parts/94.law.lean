/-! THE CLAIM OUT OF ONE WALK OF THE LAW'S BODY. Your part is whole_start (and what it stands on); all else here is the same for every law, but numbers. -/
def R_law : String := "PeatRailwayLaw"
def lw_P (b : Addr) (xs : List Int32) (args : Array Value) (s : State) : Prop := args = #[.ref b] ∧ s.IntsAt b xs ∧ xs.length ≤ 1536 ∧ (Jvm.Cond.and given_1 narrow_1).before args s = true
/-- what a walk over the start with the record d0 says of its end, said of the start itself -/
theorem lw_closed {s t : State} {o : Outcome} {d0 : Drawn} {L : List Loc} {k n : Nat} (hd0 : s.drawn.sameBut d0 lw_cs) (hv : ∃ v, o = .returned v) (hW : (s.setDrawn d0).WarmedH t.vm) (hs : (s.setDrawn d0).sameButNew ({ t with vm := s.vm } : State) L k n) : State.butDraws s t lw_cs (fun t1 => Framed s o t1 L k n) := by
  have h2 : t.drawn = d0 := congrArg State.drawn hs.1
  refine ⟨⟨hv, hW, State.sameButNew.setDrawn hs s.drawn⟩, ?_, by decide⟩
  rw [h2]
  exact hd0
def lw_Q (_ : Array Value) (s : State) (o : Outcome) (t : State) : Prop := o = .returned (some (.int 1)) ∧ State.butDraws s t lw_cs (fun t1 => Framed s o t1 [] 600000 7302250)
def lw_Z (below : List Frame) (a : Array Value) (s : State) : State → Prop := fun t => ∃ o, t.status = .running ∧ Ended t below o ∧ lw_Q a s o t
/-- the law's own end, with 1 on the stack, nothing written that was there before, its room as the claim has it; d0: the record of draws at this point (at the entry s.drawn: begin with 'refine W.base ?_' and 'have hd0 := Drawn.sameBut.refl s.drawn lw_cs') -/
theorem lw_ret {p : Program} {l : Launch} {e : Env} {s : State} {m : MethodId} {below : List Frame} {meth : Method} {c : Code} {b : Nat} {d0 : Drawn} (hd0 : s.drawn.sameBut d0 lw_cs) (hx : p.tables.exec = Jvm.exec) (hb : c.code = code) (hr : meth.sig.returnType = ret) (hlocks : meth.locks = false) {pc : Nat} {H : Heap} {ls : Array Slot} (hdg : decode code pc = .ok (.ireturn, 1)) : W p l e room_1 (s.setDrawn d0) m #[Value.ref b] below meth c H [] 600000 7302250 (lw_Z below #[Value.ref b] s) (F0 m pc ls [.int 1]) := by
  intro T hT X
  obtain ⟨fs, hret, hrun, hended, hW, hframe⟩ := X.leave (v := some (.int 1)) (hlocks := hlocks) (fun h => by rw [hr] at h; cases h)
  have hmeth' : T.vm.method? m = some meth := X.method'
  refine ⟨T.setFrames fs, ?_, .returned (some (.int 1)), hrun, hended, rfl, lw_closed hd0 ⟨_, rfl⟩ hW hframe⟩
  jvm_step X.here [X.here.top, hx, hb, hdg, hmeth', hr, ret, narrow_b1]
  (try refine ⟨rfl, ?_⟩); (try refine ⟨rfl, ?_⟩)
  first | (intro acts; rw [hret _ acts rfl rfl rfl]) | rw [hret _ _ rfl rfl rfl]
  exact Steps.refl _
/-- what holds at the law's entry: the machine, the code, the tables' words (any of lw_tbl by 'hts w (by decide +kernel)'), the script of L ints xs at the cell b, what the Statement gives of the start (any of its parts by flat_of_before) -/
def lw_At (p : Program) (s : State) (m : MethodId) (meth : Method) (c : Code) (b L : Nat) (xs : Nat → Int32) : Prop :=
  p.tables.exec = Jvm.exec ∧ c.code = code ∧ meth.sig.returnType = ret ∧ c.maxLocals = 8 ∧ s.vm.findClass R_law = some m.cls ∧ (∀ w ∈ lw_tbl, w.before #[Value.ref b] s = true) ∧ va_X b L xs s s.heap ∧ b < s.heap.size ∧ meth.locks = false ∧ (Jvm.Cond.and given_1 narrow_1).before #[Value.ref b] s = true
theorem law_cond {L k : Nat} (hL : L ≤ 1536) (hk : 3 * k ≤ L) (h : ¬ (Int32.ofNat L - 3) < nI (3 * k)) : 3 * k + 3 ≤ L := by
  by_cases hs : L < 3
  · have e : k = 0 := by omega
    subst e
    exfalso
    rcases (show L = 0 ∨ L = 1 ∨ L = 2 by omega) with rfl | rfl | rfl <;> exact h (by decide)
  · have e : Int32.ofNat L - 3 = nI (L - 3) := pk_sub (b := 3) (by omega)
    rw [e] at h
    have : ¬ (L - 3 < 3 * k) := fun q => h ((jA_nlt (a := L - 3) (b := 3 * k) (by omega) (by omega)).mpr q)
    omega
set_option maxHeartbeats 4000000 in
set_option maxRecDepth 100000 in
/-- THE LAW's LOOP -/
theorem law_loop {p : Program} {l : Launch} {e : Env} {s : State} {m : MethodId} {below : List Frame} {meth : Method} {cd : Code} {b L : Nat} {xs : Nat → Int32} {Ec Em : mE} {A : Nat → Prop} (C : lwC p s m cd b L xs Ec Em A) (hAs : ∀ q, A q → s.heap.size ≤ q) (hr : meth.sig.returnType = ret) (hlocks : meth.locks = false) {cells slots : Nat} (hc1 : cells ≤ 600000) (hs1 : slots ≤ 7302250) : ∀ (f k : Nat) (Ac Bm : mM) (H : Heap) (locs : List Loc) (ls : Array Slot), f + k = 513 → 3 * k ≤ L → lwS s Ec Em A k Ac Bm H locs → lwL ls b Ec Em (3 * k) → W p l e room_1 s m #[Value.ref b] below meth cd H locs cells slots (lw_Z below #[Value.ref b] s) (F0 m 18 ls []) := by
  obtain ⟨X, -, -, -, -, -, -, hX, hbl, hbA, hL⟩ := id C
  have hx := X.1
  have hb := X.2.1
  intro f
  induction f with
  | zero =>
    intro k Ac Bm H locs ls hf hk
    omega
  | succ f ih =>
    intro k Ac Bm H locs ls hf hk S hl
    have hS := S.2.2.2
    refine lv_iload_n hx hb dL_law_18 rfl (lv_at hl 3 rfl) ?_
    refine lv_aload_n hx hb dL_law_19 rfl (lv_at hl 0 rfl) ?_
    refine va_slen hx hb hX hbl hbA hS dL_law_20 ?_
    refine lv_iconst (v := (3 : Int32)) hx hb dL_law_21 (by decide) ?_
    refine lv_isub hx hb dL_law_22 ?_
    refine lv_icmp_gt (tgt := 768) hx hb dL_law_23 (by decide) (fun _ => ?_) (fun h1 => ?_)
    · refine lv_iconst (v := (1 : Int32)) hx hb dL_law_768 (by decide) ?_
      refine va_forget (fun q hq => hAs _ (hS.2.2 q hq)) ?_
      refine W.widen (k := 600000) (n := 7302250) hc1 hs1 ?_
      refine W.base ?_
      exact lw_ret (Drawn.sameBut.refl s.drawn lw_cs) hx hb hr hlocks dL_law_769
    · have hlt := law_cond hL hk h1
      have kk : ∀ (H1 : Heap) (locs1 : List Loc) (ls1 : Array Slot) (Ac1 Bm1 : mM), lwS s Ec Em A (k + 1) Ac1 Bm1 H1 locs1 → lwL ls1 b Ec Em (3 * k) → W p l e room_1 s m #[Value.ref b] below meth cd H1 locs1 cells slots (lw_Z below #[Value.ref b] s) (F0 m 762 ls1 []) := fun H1 locs1 ls1 Ac1 Bm1 S1 hl1 => by
        refine lv_iinc (v := nI (3 * (k + 1))) (lv' := [(3, .int (nI (3 * (k + 1)))), (0, .ref b), (1, .ref (mad Ec 240)), (2, .ref (mad Em 246))]) hx hb dL_law_762 hl1 (k := 3) rfl (by rw [show 3 * (k + 1) = 3 * k + 1 + 1 + 1 by omega, ← jA_1, ← jA_1, ← jA_1, Int32.add_assoc, Int32.add_assoc]; rfl) (by decide) rfl (fun ls hl => ?_)
        refine lv_goto (tgt := 18) hx hb dL_law_765 (by decide) ?_
        exact ih (k + 1) Ac1 Bm1 H1 locs1 ls (by omega) (by omega) S1 (lv_sub hl [1, 2, 3, 0] rfl)
      refine lv_aload_n hx hb dL_law_26 rfl (lv_at hl 0 rfl) ?_
      refine lv_iload_n hx hb dL_law_27 rfl (lv_at hl 3 rfl) ?_
      refine va_sld hx hb hX hbl hbA hS (vp_in_nI (by omega) (by omega)) dL_law_28 ?_
      rw [nI_clamp (by omega)]
      refine lv_bipush (v := (31 : Int32)) hx hb dL_law_29 (by decide) ?_
      refine lv_iand hx hb dL_law_31 ?_
      obtain ⟨j, hj, ej⟩ := pk_andE (xs (3 * k)) (m := 31) 5 (by decide)
      rw [ej]
      have hk2 : k < 3000 := by omega
      have hi : 3 * k + 2 < L := by omega
      rcases (show j = 0 ∨ j = 1 ∨ j = 2 ∨ j = 3 ∨ j = 4 ∨ j = 5 ∨ j = 6 ∨ j = 7 ∨ j = 8 ∨ j = 9 ∨ j = 10 ∨ j = 11 ∨ j = 12 ∨ j = 13 ∨ j = 14 ∨ j = 15 ∨ j = 16 ∨ j = 17 ∨ j = 18 ∨ j = 19 ∨ j = 20 ∨ j = 21 ∨ j = 22 ∨ j = 23 ∨ j = 24 ∨ 25 ≤ j by omega) with rfl | rfl | rfl | rfl | rfl | rfl | rfl | rfl | rfl | rfl | rfl | rfl | rfl | rfl | rfl | rfl | rfl | rfl | rfl | rfl | rfl | rfl | rfl | rfl | rfl | hj2
      · refine lv_tableIn (tgt := 148) hx hb dL_law_32 (by decide) (by decide) rfl (by decide) ?_
        exact lk_type C S hk2 hl hi hc1 hs1 kk
      · refine lv_tableIn (tgt := 171) hx hb dL_law_32 (by decide) (by decide) rfl (by decide) ?_
        exact lk_clear C S hk2 hl hi hc1 hs1 kk
      · refine lv_tableIn (tgt := 184) hx hb dL_law_32 (by decide) (by decide) rfl (by decide) ?_
        exact lk_fault C S hk2 hl hi hc1 hs1 kk
      · refine lv_tableIn (tgt := 197) hx hb dL_law_32 (by decide) (by decide) rfl (by decide) ?_
        exact lk_layTrack C S hk2 hl hi hc1 hs1 kk
      · refine lv_tableIn (tgt := 210) hx hb dL_law_32 (by decide) (by decide) rfl (by decide) ?_
        exact lk_set C S hk2 hl hi hc1 hs1 kk
      · refine lv_tableIn (tgt := 243) hx hb dL_law_32 (by decide) (by decide) rfl (by decide) ?_
        exact lk_dig C S hk2 hl hi hc1 hs1 kk
      · refine lv_tableIn (tgt := 266) hx hb dL_law_32 (by decide) (by decide) rfl (by decide) ?_
        exact lk_addTrain C S hk2 hl hi hc1 hs1 kk
      · refine lv_tableIn (tgt := 299) hx hb dL_law_32 (by decide) (by decide) rfl (by decide) ?_
        exact lk_dropTrain C S hk2 hl hi hc1 hs1 kk
      · refine lv_tableIn (tgt := 322) hx hb dL_law_32 (by decide) (by decide) rfl (by decide) ?_
        exact lk_setLoad C S hk2 hl hi hc1 hs1 kk
      · refine lv_tableIn (tgt := 355) hx hb dL_law_32 (by decide) (by decide) rfl (by decide) ?_
        exact lk_run C S hk2 hl hi hc1 hs1 kk
      · refine lv_tableIn (tgt := 378) hx hb dL_law_32 (by decide) (by decide) rfl (by decide) ?_
        exact lk_undo C S hk2 hl hi hc1 hs1 kk
      · refine lv_tableIn (tgt := 391) hx hb dL_law_32 (by decide) (by decide) rfl (by decide) ?_
        exact lk_keep C S hk2 hl hi hc1 hs1 kk
      · refine lv_tableIn (tgt := 414) hx hb dL_law_32 (by decide) (by decide) rfl (by decide) ?_
        exact lk_back C S hk2 hl hi hc1 hs1 kk
      · refine lv_tableIn (tgt := 437) hx hb dL_law_32 (by decide) (by decide) rfl (by decide) ?_
        exact lk_segment C S hk2 hl hi hc1 hs1 kk
      · refine lv_tableIn (tgt := 470) hx hb dL_law_32 (by decide) (by decide) rfl (by decide) ?_
        exact lk_train C S hk2 hl hi hc1 hs1 kk
      · refine lv_tableIn (tgt := 503) hx hb dL_law_32 (by decide) (by decide) rfl (by decide) ?_
        exact lk_why C S hk2 hl hi hc1 hs1 kk
      · refine lv_tableIn (tgt := 526) hx hb dL_law_32 (by decide) (by decide) rfl (by decide) ?_
        exact lk_account C S hk2 hl hi hc1 hs1 kk
      · refine lv_tableIn (tgt := 549) hx hb dL_law_32 (by decide) (by decide) rfl (by decide) ?_
        exact lk_count C S hk2 hl hi hc1 hs1 kk
      · refine lv_tableIn (tgt := 572) hx hb dL_law_32 (by decide) (by decide) rfl (by decide) ?_
        exact lk_setting C S hk2 hl hi hc1 hs1 kk
      · refine lv_tableIn (tgt := 595) hx hb dL_law_32 (by decide) (by decide) rfl (by decide) ?_
        exact lk_ifRun C S hk2 hl hi hc1 hs1 kk
      · refine lv_tableIn (tgt := 628) hx hb dL_law_32 (by decide) (by decide) rfl (by decide) ?_
        exact lk_ticksFor C S hk2 hl hi hc1 hs1 kk
      · refine lv_tableIn (tgt := 651) hx hb dL_law_32 (by decide) (by decide) rfl (by decide) ?_
        exact lk_bestRule C S hk2 hl hi hc1 hs1 kk
      · refine lv_tableIn (tgt := 674) hx hb dL_law_32 (by decide) (by decide) rfl (by decide) ?_
        exact lk_bestLoad C S hk2 hl hi hc1 hs1 kk
      · refine lv_tableIn (tgt := 707) hx hb dL_law_32 (by decide) (by decide) rfl (by decide) ?_
        exact lk_meanSinking C S hk2 hl hi hc1 hs1 kk
      · refine lv_tableIn (tgt := 748) hx hb dL_law_32 (by decide) (by decide) rfl (by decide) ?_
        exact lk_digest C S hk2 hl hi hc1 hs1 kk
      · refine lv_tableOut (tgt := 762) hx hb dL_law_32 (Or.inr (by rw [jA_n (by omega)]; omega)) (by decide) ?_
        exact kk H locs ls Ac Bm ⟨S.1, S.2.1, S.2.2.1.mono (Nat.le_succ _), S.2.2.2⟩ hl
set_option maxHeartbeats 4000000 in
set_option maxRecDepth 100000 in
/-- THE LAW, from its entry -/
theorem whole_start {p : Program} {e : Env} {s : State} {m : MethodId} {below : List Frame} {meth : Method} {c : Code} (l : Launch) (hflags : l.flags = flags0) {b L : Nat} {xs : Nat → Int32} (hL : L ≤ 1536) (C0 : lw_At p s m meth c b L xs) : W p l e room_1 s m #[Value.ref b] below meth c s.heap [] 0 0 (lw_Z below #[Value.ref b] s) (entryFrame m ([Value.ref b] : List Value).toArray 8) := by
  obtain ⟨hx, hb, hr, hml, hown, htb, hX, hbl, hlocks, hgv⟩ := id C0
  have hts : ∀ w ∈ wsL_law, w.before #[Value.ref b] s = true := fun w h => htb w (wl_all w h)
  have hG := nG_of htb
  obtain ⟨A, hAe⟩ : ∃ A : Nat → Prop, A = fun q => s.heap.size ≤ q := ⟨_, rfl⟩
  have hA : ∀ q : Nat, s.heap.size ≤ q → A q := fun q h => by rw [hAe]; exact h
  have hAs : ∀ q : Nat, A q → s.heap.size ≤ q := fun q h => by rw [hAe] at h; exact h
  have hAn : ∀ a : Nat, a < s.heap.size → ¬ A a := fun a h q => Nat.not_le.mpr h (hAs a q)
  have hSS := sS_of htb hgv hAn
  obtain ⟨aK, aV, hT, hZ⟩ := sT_of htb hgv hAn
  obtain ⟨D, Y, hK⟩ := k_start hts hG
  obtain ⟨A0, hlay, hRel, hfr⟩ := rel_start
  have hS : va_S A s.heap s.heap [] := va_S.rf
  have X : nX p s m #[Value.ref b] c cL_law 8 RL A := ⟨hx, hb, hml, hown, hts, hSS⟩
  have hl := lv_entry ([.ref b]) (n := 8) (Nat.le_of_ble_eq_true rfl)
  rw [lg_entry_eq]
  generalize (lg_sl ([.ref b]) ++ List.replicate (8 - (lg_sl ([.ref b])).length) Slot.unset).toArray = ls at hl ⊢
  have hl : lv_has ls 8 [(0, .ref b)] := hl
  have hP0 : va_P D vwCl [] s.heap := fun k q h => by simp at h
  have hD0 : va_D A [] := ⟨fun i j p q h => by simp at h, fun k q h => by simp at h⟩
  refine va_new (ci := 5) (fs := vo5) (C := RX5) (T := TX5) (N := 6) hx hb hts inlX5 tyX5 tyX5_ok hown (hts _ wd_1_0) (hts _ wd_1_1) (hts _ wd_1_2) hK hP0 hD0 hS hA rfl (fun j hj => by rcases (show j = 0 ∨ j = 1 ∨ j = 2 ∨ j = 3 ∨ j = 4 ∨ j = 5 by omega) with rfl | rfl | rfl | rfl | rfl | rfl <;> rfl) (Nat.le_of_ble_eq_true rfl) (Nat.le_of_ble_eq_true rfl) dL_law_0 (fun q1 H1 hP1 hD1 hS1 => ?_)
  refine lv_dup hx hb dL_law_3 rfl ?_
  have hA1 : ∀ z : Nat, H1.size ≤ z → A z := fun z hz => hA z (Nat.le_trans hS1.1 hz)
  have hq1 : A q1 := hD1.2 0 (q1, .inr (5, vo5)) rfl
  have hAc := nc_A (x := .inr (5, vo5)) hq1 hA1
  have hP1 : va_P D vwCl [(q1, .inr (5, vo5))] H1 := hP1
  refine va_callv (va_runI (As := []) (rest := [.ref q1]) ⟨hx, hb, hml, hown, hts⟩ (i_Rail l D Y q1 H1.size aK aV "0p,4,4,2p,4,4,0p" hlay hfr) (cwI 0 hts (mx_good (fun w hw => by rcases List.mem_cons.mp hw with rfl | hw; exact wd_1_8; exact hw)) rfl rfl rfl (hts _ wd_1_2) (hts _ wd_1_6) (hts _ wd_1_7) rfl (by decide +kernel) ⟨Nat.le_of_ble_eq_true rfl, Nat.le_of_ble_eq_true rfl⟩) ⟨fun a U g mk q => by obtain ⟨q0, q1, qP, qK, qG, qF, qT, qZ⟩ := q; exact ⟨q0, q1, qP, va_K.moved (u := U) (U := U.calling g mk a) (Vm.Alike.refl U.vm) qK, qG, qF, qT, vk_R.same (u := U) rfl qZ⟩, fun U hU hW => ⟨rfl, by rw [hU], by rw [hU]; exact hP1, va_K.moved hW.alike hK, hG.warm hW, by rw [hU]; exact (((hSS.kept (fun a h1 h2 => hS1.2.1 a h1 h2)).moved hW.alike).narrow hAc), by rw [hU]; exact (((hT.kept (fun a h1 h2 => hS1.2.1 a h1 h2)).moved hW.alike).narrow hAc), hZ.warm hW⟩⟩ rfl rfl hl.1 rfl (lv_room (Nat.le_of_ble_eq_true rfl)) dL_law_4 ⟨Nat.le_of_ble_eq_true rfl, Nat.le_of_ble_eq_true rfl⟩) hS1 (fun x _ h => hAc x h) hAc (fun u t H2 locs2 ht hvm hw hB hz1 hk1 hS2 => ?_)
  obtain ⟨hPE, hDE⟩ := hB
  rw [ht] at hPE
  have hw : u 240 = q1 := hw
  have hDA : va_D A (mws (D, Y, u, List.range 246) (up2 A0 241 1 0)) := hDE.weaken (fun _ _ _ h => hAc _ h)
  rw [← hw]
  refine lv_astore_n (lv' := [(1, .ref (u 240)), (0, .ref b)]) hx hb dL_law_7 rfl hl (by decide) rfl (fun ls hl => ?_)
  refine va_new (ci := 6) (fs := vMo0 .null .null .null .null .null) (C := RX6) (T := TX6) (N := 11) hx hb hts inlX6 tyX6 tyX6_ok hown (hts _ wd_1_3) (hts _ wd_1_4) (hts _ wd_1_5) hK hPE hDA hS2 hA rfl (fun j hj => by rcases (show j = 0 ∨ j = 1 ∨ j = 2 ∨ j = 3 ∨ j = 4 ∨ j = 5 ∨ j = 6 ∨ j = 7 ∨ j = 8 ∨ j = 9 ∨ j = 10 by omega) with rfl | rfl | rfl | rfl | rfl | rfl | rfl | rfl | rfl | rfl | rfl <;> rfl) (Nat.le_of_ble_eq_true rfl) (Nat.le_of_ble_eq_true rfl) dL_law_8 (fun q2 H3 hP3 hD3 hS3 => ?_)
  refine lv_dup hx hb dL_law_11 rfl ?_
  have hPE3 : mP (D, Y, u, List.range 246) (up2 A0 241 1 0) H3 := fun k q hk => hP3 k q (mid_pre hk)
  have hPm3 : va_P D vwCl [(q2, .inr (6, vMo0 .null .null .null .null .null))] H3 := fun k y hk => by
    have hz : k < 1 := (List.getElem?_eq_some_iff.mp hk).1
    rw [show k = 0 by omega] at hk
    cases hk
    exact hP3 _ _ mid_at
  have hne : ∀ c, c ∈ List.range 246 → u c < H3.size ∧ u c ≠ q2 := fun c hc => by
    obtain ⟨i, hi⟩ := List.getElem?_of_mem hc
    have h1 : (mws (D, Y, u, List.range 246) (up2 A0 241 1 0))[i]? = some (u c, _) := mws_at hi
    refine ⟨(hPE3 _ _ h1).lt, fun z => ?_⟩
    have := hD3.1 i _ _ _ (mid_pre h1) mid_at z
    have := (List.getElem?_eq_some_iff.mp h1).1
    omega
  have hA3 : ∀ z : Nat, H3.size ≤ z → A z := fun z hz => hA z (Nat.le_trans hS3.1 hz)
  have hq2 : A q2 := hD3.2 _ _ mid_at
  have hAd := nc_A (x := .inr (6, vMo0 .null .null .null .null .null)) hq2 hA3
  refine va_callv (va_runI (As := []) (rest := [.ref q2]) ⟨hx, hb, hml, hown, hts⟩ (i_Model l D Y q2 H3.size) (cwI 0 hts (mx_good (fun w hw => by rcases List.mem_cons.mp hw with rfl | hw; exact wd_7_21; exact hw)) rfl rfl rfl (hts _ wd_1_5) (hts _ wd_7_19) (hts _ wd_7_20) rfl (by decide +kernel) ⟨Nat.le_of_ble_eq_true rfl, Nat.le_of_ble_eq_true rfl⟩) ⟨fun a U g mk q => by obtain ⟨q0, q1, qP, qK, qF⟩ := q; exact ⟨q0, q1, qP, va_K.moved (u := U) (U := U.calling g mk a) (Vm.Alike.refl U.vm) qK, qF⟩, fun U hU hW => ⟨rfl, by rw [hU], by rw [hU]; exact hPm3, va_K.moved hW.alike hK, by rw [hU]; exact (((hSS.kept (fun a h1 h2 => hS3.2.1 a h1 h2)).moved hW.alike).narrow hAd)⟩⟩ rfl rfl hl.1 rfl (lv_room (Nat.le_of_ble_eq_true rfl)) dL_law_12 ⟨Nat.le_of_ble_eq_true rfl, Nat.le_of_ble_eq_true rfl⟩) hS3 (fun x _ h => hAd x h) hAd (fun u2 t2 H4 locs4 ht2 hvm2 hw2 hB2 hz2 hk2 hS4 => ?_)
  obtain ⟨hPM, hDM⟩ := hB2
  rw [ht2] at hPM
  have hw2 : u2 246 = q2 := hw2
  have hout : ∀ c, c ∈ List.range 246 → ¬ va_A [(q2, .inr (6, vMo0 .null .null .null .null .null))] H3.size (u c) := fun c hc z => by
    obtain ⟨h1, h2⟩ := hne c hc
    rcases z with ⟨k, e', hk⟩ | z
    · have hz : k < 1 := (List.getElem?_eq_some_iff.mp hk).1
      rw [show k = 0 by omega] at hk
      have := (Prod.mk.inj (Option.some.inj hk)).1
      exact h2 this.symm
    · omega
  have hPE4 : mP (D, Y, u, List.range 246) (up2 A0 241 1 0) H4 := mP_of (fun c hc => (mP_at hPE3 hc).kept (hk2 _ (hne c hc).1 (hout c hc)))
  have hEc : ∀ q, mA (D, Y, u, List.range 246) q → A q := mA_of hDA
  have hEm : ∀ q, mA (D, Y, u2, moI) q → A q := fun q hq => hAd _ (mA_of hDM q hq)
  have hdis : ∀ q, mA (D, Y, u, List.range 246) q → ¬ mA (D, Y, u2, moI) q := by
    rintro q ⟨c, hc, rfl⟩ h2
    exact hout c hc (mA_of hDM _ h2)
  have hAl : mAl (D, Y, u, List.range 246) 240 := ⟨rfl, fun r hr => List.mem_range.mpr hr⟩
  have hMo : mMo (D, Y, u2, moI) 246 := ⟨rfl, fun r hr => by
    rcases (show r = 0 ∨ r = 1 ∨ r = 2 ∨ r = 3 ∨ r = 4 ∨ r = 5 by omega) with rfl | rfl | rfl | rfl | rfl | rfl <;> (show _ ∈ moI; decide)⟩
  have CC : lwC p s m c b L xs (D, Y, u, List.range 246) (D, Y, u2, moI) A := ⟨X, hK, hK, ⟨mJ_of hDA, mJ_of hDM⟩, ⟨hAl, hMo⟩, ⟨hEc, hEm⟩, hdis, hX, hbl, hAn b hbl, hL⟩
  rw [← hw2]
  refine lv_astore_n (lv' := [(2, .ref (u2 246)), (1, .ref (u 240)), (0, .ref b)]) hx hb dL_law_15 rfl hl (by decide) rfl (fun ls hl => ?_)
  refine lv_iconst (v := (0 : Int32)) hx hb dL_law_16 (by decide) ?_
  refine lv_istore_n (lv' := [(3, .int 0), (2, .ref (u2 246)), (1, .ref (u 240)), (0, .ref b)]) hx hb dL_law_17 rfl hl (by decide) rfl (fun ls hl => ?_)
  exact law_loop CC hAs hr hlocks (Nat.le_of_ble_eq_true rfl) (Nat.le_of_ble_eq_true rfl) 513 0 _ _ H4 locs4 ls rfl (Nat.zero_le _) ⟨hPE4, hPM, hRel, hS4⟩ (lv_sub hl [3, 2, 1, 0] rfl)
