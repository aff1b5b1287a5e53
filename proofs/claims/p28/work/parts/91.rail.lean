/-! CONSTRUCTOR PeatRailway() -/
abbrev vo5 : List Value := [.null, .null, .null, .null, .null, .int 0]
theorem i22_nodup : i22.Nodup := by decide
theorem i22_ok : ∀ c ∈ i22, crn c < 23 ∧ c < 246 := by decide
theorem i22_0 : ∀ c ∈ i22, crn c ≠ 0 := by decide
theorem i22_in : ∀ r : Fin 23, r.1 ≠ 0 → cnu r.1 ∈ i22 := by decide
theorem i22_st : ∀ r, r < 20 → 0 + r ∈ i22 := by decide
abbrev iT : List Nat := [241, 242]
theorem iT_ok : ∀ c ∈ iT, crn c < 3 ∧ c < 246 := by decide
theorem iT_0 : ∀ c ∈ iT, crn c ≠ 0 := by decide
/-- the text's two cells -/
theorem eT_P {D : va_G} {Y : Nat → ClassId} {A : Nat → Prop} {ad ut : Nat → Nat} {H : Heap} (O : cOk D A 3 ad (fun r => if r < 1 then .inr (5, vo5) else tcell Y ut (r - 1)) H) (l1 : ut 1 = ad 2) : mP (eOf D Y ad iT) (gA 0) H := by
  refine mP_of (fun c hc => ?_)
  rcases (show c = 241 ∨ c = 242 by have hc : c ∈ iT := hc; simpa using hc) with rfl | rfl
  · have z := O.1 1 (by decide)
    have e : mcell (eOf D Y ad iT) (gA 0) 241 = .inr (1, [.ref (ut 1), .int 0]) := by
      rw [l1]; rfl
    show va_at D vwCl (ad 1, mcell (eOf D Y ad iT) (gA 0) 241) H
    rw [e]; exact z
  · have z := O.1 2 (by decide)
    have z : va_at D vwCl (ad 2, .inl (Y 0, 40, .inl (fun _ => 0))) H := z
    show va_at D vwCl (ad 2, .inl (Y 0, 40, .inl (gA 0 242))) H
    refine rwi_eq (fun j _ => ?_) z
    unfold gA
    rw [if_neg (by omega), if_neg (by omega), gI_0 (by decide) (by decide)]
/-- the text and the first State -/
theorem e2_P {D : va_G} {Y : Nat → ClassId} {A : Nat → Prop} {ad1 ad2 u : Nat → Nat} {H : Heap} (O : cOk D A 23 ad2 (fun r => if r < 3 then (if r = 0 then .inr (5, vo5) else if r = 1 then mcell (eOf D Y ad1 iT) (gA 16) 241 else mcell (eOf D Y ad1 iT) (gA 16) 242) else scell Y u (r - 3)) H) (l1 : ad1 2 = ad2 2) (l2 : ∀ k, k < 20 → u k = ad2 (3 + k)) : mP (eOf D Y ad2 i22) (gA 16) H := by
  refine mP_of (fun c hc => ?_)
  rcases (show c = 241 ∨ c = 242 ∨ c < 20 by have hc : c ∈ i22 := hc; simpa using hc) with rfl | rfl | hc
  · have z := O.1 1 (by decide)
    have e : mcell (eOf D Y ad2 i22) (gA 16) 241 = mcell (eOf D Y ad1 iT) (gA 16) 241 := by
      show Sum.inr (1, [Value.ref (ad2 2), .int (gA 16 241 1)]) = Sum.inr (1, [Value.ref (ad1 2), .int (gA 16 241 1)])
      rw [l1]
    show va_at D vwCl (ad2 1, mcell (eOf D Y ad2 i22) (gA 16) 241) H
    rw [e]; exact z
  · have z := O.1 2 (by decide)
    exact z
  · have z := O.1 (3 + c) (by omega)
    dsimp only at z
    rw [if_neg (by omega), Nat.add_sub_cancel_left] at z
    have := sc_mc (E := eOf D Y ad2 i22) (G := gA 16) (u := u) (x := ad2 (3 + c)) (b := 0) (r := c) (H := H) (D := D) (by decide) hc (by omega) (fun e k _ => by rw [gA_o (by omega) (by omega), gI_3 (by omega) (by omega)]) (fun e k => by rw [gA_o (by omega) (by omega), gI_0 (by omega) (by omega)]) (fun k hk => by
      rw [l2 k hk]
      show _ = ad2 (crn (0 + k))
      rw [crn_lo (by omega)]; congr 1; omega) z
    rw [Nat.zero_add] at this
    show va_at D vwCl (ad2 (crn c), mcell (eOf D Y ad2 i22) (gA 16) c) H
    rw [crn_lo (by omega), Nat.add_comm c 3]
    exact this
set_option maxHeartbeats 8000000 in
set_option maxRecDepth 100000 in
theorem i_Rail (l : Launch) (D : va_G) (Y : Nat → ClassId) (h sz aK aV : Nat) (tx : String) {A0 : mM} (hA0 : x1_layOnto 0 (gA 16) = some A0) (hfr : ∀ d, 20 ≤ d → d ≠ 241 → d ≠ 242 → ∀ j, up2 A0 241 1 0 d j = gI d j) : Met l yX5_init (mWs yX5_init cX5_init 4 none) ({ frames := 4, cells := 245, slots := 1758, locals := 101 }) (va_Pc [.ref h] (fun U => U.heap.size = sz ∧ va_P D vwCl [(h, .inr (5, vo5))] U.heap ∧ va_K D vwCl (mtY Y) U ∧ nG U ∧ sS (va_A [(h, .inr (5, vo5))] sz) U U.heap ∧ sT aK aV (va_A [(h, .inr (5, vo5))] sz) U U.heap ∧ vk_R RX5 12 tx aK U)) (va_Qv (fun u : Nat → Nat => u 240 = h) (fun u t => mP (D, Y, u, List.range 246) (up2 A0 241 1 0) t.heap ∧ va_D (va_A [(h, .inr (5, vo5))] sz) (mws (D, Y, u, List.range 246) (up2 A0 241 1 0))) (va_A [(h, .inr (5, vo5))] sz)) 245 1758 (va_A [(h, .inr (5, vo5))] sz) := by
  refine Met.ofW (cc := cX5_init) (maxL := 4) (ret := none) (by decide) rfl ?_
  intro p e s m args below meth c s₁ B hml hv
  obtain ⟨rfl, hsz, hP, hK, hG, hF, hT, hZ⟩ := hv
  have hx := B.exec
  have hb := B.bytes
  have hr := B.returns
  have hts : ∀ w ∈ wsL_law, w.before _ s = true := fun w hw => atoms_spec (ws := mWs yX5_init cX5_init 4 none) B.pre w (List.mem_cons_of_mem _ hw)
  have hown : s.vm.findClass RX5 = some m.cls := findClass_of_methodNamed B.named
  have hlocks := B.notSynchronized
  have hin : meth.name = "<init>" := (name_of_methodNamed B.named B.method).1
  subst hsz
  have O : cOk D (va_A [(h, .inr (5, vo5))] s.heap.size) 1 (fun _ => h) (fun _ => .inr (5, vo5)) s.heap := ⟨fun r hr => hP 0 _ rfl, fun r r' hr hr' _ => by omega, fun r hr => va_A.in (k := 0) (q := (h, .inr (5, vo5))) rfl⟩
  generalize hAe : va_A [(h, .inr (5, vo5))] s.heap.size = A at O hF hT ⊢
  have hA : ∀ q : Nat, s.heap.size ≤ q → A q := fun q h => by rw [← hAe]; exact Or.inr h
  have hS : va_S A s.heap s.heap [] := va_S.rf
  have hl := lv_entry ([.ref h]) (n := 4) (Nat.le_of_ble_eq_true rfl)
  rw [lg_entry_eq]
  generalize (lg_sl ([.ref h]) ++ List.replicate (4 - (lg_sl ([.ref h])).length) Slot.unset).toArray = ls at hl ⊢
  have hl : lv_has ls 4 [(0, .ref h)] := hl
  have X : nX p s m _ c cX5_init 4 RX5 A := ⟨hx, hb, hml, hown, hts, hF⟩
  refine lv_aload_n hx hb dX5_init_0 rfl (lv_at hl 0 rfl) ?_
  refine W.objInit hx hb hown (hts _ wd_1_8) (hts _ wd_1_9) (hts _ wd_1_10) rfl (by rw [hml]; exact hl.1) rfl dX5_init_1 (Nat.le_of_ble_eq_true rfl) (Nat.le_of_ble_eq_true rfl) ?_
  refine W.eq (g2 := F0 m 4 ls []) rfl ?_
  refine nc_text (i1 := 9) (i2 := 11) X hK hA hl.1 O hS dX5_init_4 dX5_init_7 dX5_init_8 wd_1_11 wd_2_1 ⟨Nat.le_of_ble_eq_true rfl, Nat.le_of_ble_eq_true rfl⟩ ⟨Nat.le_of_ble_eq_true rfl, Nat.le_of_ble_eq_true rfl⟩ (fun q => Nat.le_of_ble_eq_true rfl) (fun ut H1 locs1 O1 hS => ?_)
  obtain ⟨ad1, had1⟩ : ∃ ad1, ad1 = stAd (fun _ => h) 1 ut := ⟨_, rfl⟩
  rw [← had1] at O1
  have a10 : ad1 0 = h := by rw [had1]; rfl
  have a11 : ut 0 = ad1 1 := by rw [had1]; rfl
  have a12 : ut 1 = ad1 2 := by rw [had1]; rfl
  have hP1 := eT_P O1 a12
  obtain ⟨hJ1, hE1, hN1⟩ := eOf_all (D := D) (Y := Y) (I := iT) (by decide) iT_ok O1
  have hh1 : ¬ mA (eOf D Y ad1 iT) h := by rw [← a10]; exact hN1 0 (by decide) iT_0
  have h01 : va_at D vwCl (h, .inr (5, vo5)) H1 := by rw [← a10]; exact O1.1 0 (by decide)
  have hTx1 : mTx (eOf D Y ad1 iT) 241 := ⟨rfl, by show 241 ∈ iT; decide, by show 242 ∈ iT; decide⟩
  rw [a11]
  refine lv_astore_n (lv' := [(1, .ref (ad1 1)), (0, .ref h)]) hx hb dX5_init_11 rfl hl (by decide) rfl (fun ls hl => ?_)
  refine lv_iconst (v := (0 : Int32)) hx hb dX5_init_12 (by decide) ?_
  refine lv_istore_n (lv' := [(2, .int 0), (1, .ref (ad1 1)), (0, .ref h)]) hx hb dX5_init_13 rfl hl (by decide) rfl (fun ls hl => ?_)
  refine n5_loop14 (E := eOf D Y ad1 iT) X hT hZ hK hJ1 hTx1 hE1 ⟨Nat.le_of_ble_eq_true rfl, Nat.le_of_ble_eq_true rfl⟩ (x0 := .inr (5, vo5)) hh1 16 0 H1 locs1 ls _ _ rfl (Nat.le_of_ble_eq_true rfl) (Nat.le_of_ble_eq_true rfl) hP1 h01 hS (lv_sub hl [2, 1, 0] rfl) (fun H2 locs2 ls hP2 h02 hS hl => ?_)
  have O2 : cOk D A 3 ad1 (fun r => if r = 0 then .inr (5, vo5) else if r = 1 then mcell (eOf D Y ad1 iT) (gA 16) 241 else mcell (eOf D Y ad1 iT) (gA 16) 242) H2 := by
    refine ⟨fun r hr => ?_, O1.2.1, O1.2.2⟩
    rcases (show r = 0 ∨ r = 1 ∨ r = 2 by omega) with rfl | rfl | rfl
    · rw [a10]; exact h02
    · exact mP_at hP2 (c := 241) (by show 241 ∈ iT; decide)
    · exact mP_at hP2 (c := 242) (by show 242 ∈ iT; decide)
  refine nc_state (i1 := 28) (i2 := 30) X hG hK hA hl.1 O2 hS dX5_init_39 dX5_init_42 dX5_init_43 wd_1_14 wd_4_13 ⟨Nat.le_of_ble_eq_true rfl, Nat.le_of_ble_eq_true rfl⟩ ⟨Nat.le_of_ble_eq_true rfl, Nat.le_of_ble_eq_true rfl⟩ (fun q => Nat.le_of_ble_eq_true rfl) (fun u1 H3 locs3 O3 hS => ?_)
  obtain ⟨ad2, had2⟩ : ∃ ad2, ad2 = stAd ad1 3 u1 := ⟨_, rfl⟩
  rw [← had2] at O3
  have l2 : ∀ r, r < 3 → ad2 r = ad1 r := fun r hr => by rw [had2]; exact if_pos hr
  have l2' : ∀ k, k < 20 → u1 k = ad2 (3 + k) := fun k _ => by rw [had2]; unfold stAd; rw [if_neg (by omega), Nat.add_sub_cancel_left]
  have hP3 := e2_P O3 (l2 2 (by decide)).symm l2'
  obtain ⟨hJ2, hE2, hN2⟩ := eOf_all (D := D) (Y := Y) (I := i22) i22_nodup i22_ok O3
  have a20 : ad2 0 = h := (l2 0 (by decide)).trans a10
  have hh2 : ¬ mA (eOf D Y ad2 i22) h := by rw [← a20]; exact hN2 0 (by decide) i22_0
  have h03 : va_at D vwCl (h, .inr (5, vo5)) H3 := by rw [← a20]; exact O3.1 0 (by decide)
  have hTx2 : mTx (eOf D Y ad2 i22) 241 := ⟨rfl, by show 241 ∈ i22; decide, by show 242 ∈ i22; decide⟩
  have hSt2 : mSt (eOf D Y ad2 i22) 0 := ⟨by decide, by decide, i22_st⟩
  rw [l2' 0 (by decide)]
  refine lv_astore_n (lv' := [(2, .ref (ad2 3)), (0, .ref h), (1, .ref (ad1 1))]) hx hb dX5_init_46 rfl hl (by decide) rfl (fun ls hl => ?_)
  rw [← l2 1 (by decide)] at hl
  have hl : lv_has ls 4 [(2, .ref (mad (eOf D Y ad2 i22) 0)), (0, .ref h), (1, .ref (mad (eOf D Y ad2 i22) 241))] := hl
  refine lv_aload_n hx hb dX5_init_47 rfl (lv_at hl 2 rfl) ?_
  refine lv_aload_n hx hb dX5_init_48 rfl (lv_at hl 0 rfl) ?_
  refine nx_callV (As := [.ref (mad (eOf D Y ad2 i22) 0)]) (rest := []) (st1 := []) (C := RX1) (T := TX1) (N := 2) (ci := 1) (E := eOf D Y ad2 i22) X hK hE2 hP3 hS hl.1 (c1_layOnto l (eOf D Y ad2 i22) hJ2 hTx2 hSt2 (gA 16) A0 hA0) wd_5_8 wd_5_9 wd_5_10 wd_1_13 wd_5_11 hd1_layOnto ⟨Nat.le_of_ble_eq_true rfl, Nat.le_of_ble_eq_true rfl⟩ ⟨Nat.le_of_ble_eq_true rfl, Nat.le_of_ble_eq_true rfl⟩ hTx2.i (hTx2.c _) rfl (Nat.le_of_ble_eq_true rfl) rfl rfl dX5_init_49 (fun H4 locs4 hP4 hz4 hk4 hS => ?_)
  have h04 := h03.kept (hk4 _ h03.lt hh2)
  refine lv_aload_n hx hb dX5_init_52 rfl (lv_at hl 2 rfl) ?_
  refine nx_callV (As := []) (rest := []) (st1 := []) (C := RX1) (T := TX1) (N := 2) (ci := 1) (E := eOf D Y ad2 i22) X hK hE2 hP4 hS hl.1 (c1_wipe l (eOf D Y ad2 i22) hJ2 hTx2 A0 (up2 A0 241 1 0) rfl) wd_7_6 wd_7_7 wd_7_8 wd_1_13 wd_7_9 hd1_wipe ⟨Nat.le_of_ble_eq_true rfl, Nat.le_of_ble_eq_true rfl⟩ ⟨Nat.le_of_ble_eq_true rfl, Nat.le_of_ble_eq_true rfl⟩ hTx2.i (hTx2.c _) rfl (Nat.le_of_ble_eq_true rfl) rfl rfl dX5_init_53 (fun H5 locs5 hP5 hz5 hk5 hS => ?_)
  have h05 := h04.kept (hk5 _ h04.lt hh2)
  have O5 : cOk D A 23 ad2 (bcn vo5 (fun r => mcell (eOf D Y ad2 i22) (up2 A0 241 1 0) (cnu r))) H5 := by
    refine ⟨fun r hr => ?_, O3.2.1, O3.2.2⟩
    unfold bcn
    by_cases e0 : r = 0
    · subst e0
      rw [if_pos rfl, a20]
      exact h05
    · rw [if_neg e0]
      have z := mP_at hP5 (c := cnu r) (i22_in ⟨r, hr⟩ e0)
      have e1 : crn (cnu r) = r := (cnu_all ⟨r, by omega⟩).1
      have z : va_at D vwCl (ad2 (crn (cnu r)), mcell (eOf D Y ad2 i22) (up2 A0 241 1 0) (cnu r)) H5 := z
      rw [e1] at z
      exact z
  rw [← a20] at hl
  have hl : lv_has ls 4 [(2, .ref (ad2 3)), (0, .ref (ad2 0)), (1, .ref (ad2 1))] := hl
  refine lv_aload_n hx hb dX5_init_56 rfl (lv_at hl 1 rfl) ?_
  refine lv_aload_n hx hb dX5_init_57 rfl (lv_at hl 2 rfl) ?_
  refine nc_put (ty := .object "PeatRailway$InputText") X hK O5 (by decide) hS hin rfl 0 (by decide) wd_1_17 (by decide +kernel) rfl rfl dX5_init_58 (fun H6 locs6 O6 hS => ?_)
  refine lv_aload_n hx hb dX5_init_61 rfl (lv_at hl 1 rfl) ?_
  refine lv_aload_n hx hb dX5_init_62 rfl (lv_at hl 0 rfl) ?_
  refine nc_put (ty := .object "PeatRailway$State") X hK O6 (by decide) hS hin rfl 1 (by decide) wd_1_18 (by decide +kernel) rfl rfl dX5_init_63 (fun H7 locs7 O7 hS => ?_)
  refine lv_aload_n hx hb dX5_init_66 rfl (lv_at hl 1 rfl) ?_
  refine nc_state (i1 := 28) (i2 := 30) X hG hK hA hl.1 O7 hS dX5_init_67 dX5_init_70 dX5_init_71 wd_1_14 wd_4_13 ⟨Nat.le_of_ble_eq_true rfl, Nat.le_of_ble_eq_true rfl⟩ ⟨Nat.le_of_ble_eq_true rfl, Nat.le_of_ble_eq_true rfl⟩ (fun q => Nat.le_of_ble_eq_true rfl) (fun u2 H8 locs8 O8 hS => ?_)
  rw [bcn_app (by decide)] at O8
  obtain ⟨ad3, had3⟩ : ∃ ad3, ad3 = stAd ad2 23 u2 := ⟨_, rfl⟩
  rw [← had3] at O8
  have l3 : ∀ r, r < 23 → ad3 r = ad2 r := fun r hr => by rw [had3]; exact if_pos hr
  have l3' : ∀ k, k < 20 → u2 k = ad3 (23 + k) := fun k _ => by rw [had3]; unfold stAd; rw [if_neg (by omega), Nat.add_sub_cancel_left]
  rw [← l3 0 (by decide)] at hl ⊢
  refine nc_put (ty := .object "PeatRailway$State") X hK O8 (by decide) hS hin rfl 2 (by decide) wd_1_19 (by decide +kernel) rfl rfl dX5_init_74 (fun H9 locs9 O9 hS => ?_)
  refine lv_aload_n hx hb dX5_init_77 rfl (lv_at hl 1 rfl) ?_
  refine nc_hist (i1 := 49) (i2 := 51) X hG hK hA hl.1 O9 hS dX5_init_78 dX5_init_81 dX5_init_82 wd_1_20 wd_7_10 ⟨Nat.le_of_ble_eq_true rfl, Nat.le_of_ble_eq_true rfl⟩ ⟨Nat.le_of_ble_eq_true rfl, Nat.le_of_ble_eq_true rfl⟩ (fun q => Nat.le_of_ble_eq_true rfl) (fun uh H10 locs10 O10 hS => ?_)
  rw [bcn_app (by decide)] at O10
  obtain ⟨ad4, had4⟩ : ∃ ad4, ad4 = stAd ad3 43 uh := ⟨_, rfl⟩
  rw [← had4] at O10
  have l4 : ∀ r, r < 43 → ad4 r = ad3 r := fun r hr => by rw [had4]; exact if_pos hr
  have l4' : ∀ k, k < 162 → uh k = ad4 (43 + k) := fun k _ => by rw [had4]; unfold stAd; rw [if_neg (by omega), Nat.add_sub_cancel_left]
  rw [← l4 0 (by decide)] at hl ⊢
  refine nc_put (ty := .object "PeatRailway$History") X hK O10 (by decide) hS hin rfl 3 (by decide) wd_1_23 (by decide +kernel) rfl rfl dX5_init_85 (fun H11 locs11 O11 hS => ?_)
  refine lv_aload_n hx hb dX5_init_88 rfl (lv_at hl 1 rfl) ?_
  refine lv_iconst (v := (2 : Int32)) hx hb dX5_init_89 (by decide) ?_
  refine va_newq (C := "PeatRailway$State") (N' := 2) hx hb hown (hts _ wd_1_14) hG.2.2.2.2.1 hK O11.P O11.D hS hA (by decide) (by decide) (by decide) (Nat.le_of_ble_eq_true rfl) (Nat.le_of_ble_eq_true rfl) dX5_init_90 (fun ai cA H12 hK2 hP12 hD12 hS => ?_)
  rw [findRow (t := 3) hK rfl hK2] at hP12 hD12
  have O12 := cOk.push hP12 hD12
  obtain ⟨ad5, had5⟩ : ∃ ad5, ad5 = fset ad4 205 ai := ⟨_, rfl⟩
  have O12 : cOk D A 206 ad5 (bcn [.ref (ad2 1), .ref (ad2 3), .ref (u2 0), .ref (uh 0), .null, .int 0] (fun r => if r = 205 then rwq (Y 3) 2 (fun _ => none) else if r < 43 then (if r < 23 then mcell (eOf D Y ad2 i22) (up2 A0 241 1 0) (cnu r) else scell Y u2 (r - 23)) else hcn Y 8 uh (r - 43))) H12 := by
    rw [had5]
    refine O12.cn (fun _ _ => rfl) (fun r hr z => ?_)
    unfold bcn at z ⊢
    by_cases e0 : r = 0
    · subst e0; exact z
    · rw [if_neg e0] at z ⊢
      exact z
  have l5 : ∀ r, r < 205 → ad5 r = ad4 r := fun r hr => by rw [had5]; exact fset_n (by omega)
  have l5' : ai = ad5 205 := by rw [had5, fset_s]
  rw [← l5 0 (by decide)] at hl ⊢
  rw [l5']
  refine nc_put (ty := .array (.object "PeatRailway$State")) X hK O12 (by decide) hS hin rfl 4 (by decide) wd_2_0 (by decide +kernel) rfl rfl dX5_init_93 (fun H13 locs13 O13 hS => ?_)
  refine lv_iconst (v := (0 : Int32)) hx hb dX5_init_96 (by decide) ?_
  refine lv_istore_n (lv' := [(3, .int 0), (2, .ref (ad2 3)), (0, .ref (ad5 0)), (1, .ref (ad2 1))]) hx hb dX5_init_97 rfl hl (by decide) rfl (fun ls hl => ?_)
  obtain ⟨c0, hc0⟩ : ∃ c0, c0 = bcn [.ref (ad2 1), .ref (ad2 3), .ref (u2 0), .ref (uh 0), .ref (ad5 205), .int 0] (fun r => if r < 43 then (if r < 23 then mcell (eOf D Y ad2 i22) (up2 A0 241 1 0) (cnu r) else scell Y u2 (r - 23)) else hcn Y 8 uh (r - 43)) := ⟨_, rfl⟩
  have O14 : cOk D A (206 + 20 * 0) ad5 (pcn Y 0 c0 ad5) H13 := by
    refine O13.cn (fun _ _ => rfl) (fun r hr z => ?_)
    rw [hc0]
    unfold bcn at z
    unfold pcn bcn
    by_cases e0 : r = 0
    · subst e0; exact z
    · rw [if_neg e0] at z
      dsimp only at z
      by_cases e1 : r = 205
      · subst e1
        rw [if_pos rfl] at z
        rw [if_neg (by decide), if_pos rfl]
        exact rwq_eq (fun j _ => by rw [if_neg (by omega)]) z
      · rw [if_neg e1] at z
        rw [if_pos (by omega), if_neg e0]
        exact z
  refine n5_loop98 (Y := Y) (ad0 := ad5) (c0 := c0) X hG hK hA ⟨Nat.le_of_ble_eq_true rfl, Nat.le_of_ble_eq_true rfl⟩ (by rw [hc0]; rfl) rfl 2 0 ad5 H13 locs13 ls _ _ rfl (Nat.le_of_ble_eq_true rfl) (Nat.le_of_ble_eq_true rfl) (fun _ _ => rfl) O14 hS (lv_sub hl [2, 0] rfl) (fun adF H locs ls lF O hS => ?_)
  rw [hc0] at O
  have m1 : ∀ r, r < 205 → adF r = ad4 r := fun r hr => (lF r (by omega)).trans (l5 r hr)
  have m2 : ∀ r, r < 43 → adF r = ad3 r := fun r hr => (m1 r (by omega)).trans (l4 r hr)
  have m3 : ∀ r, r < 23 → ad2 r = adF r := fun r hr => ((m2 r (by omega)).trans (l3 r hr)).symm
  have m4 : ∀ k, k < 20 → u2 k = adF (23 + k) := fun k hk => (l3' k hk).trans (m2 _ (by omega)).symm
  have m5 : ∀ k, k < 162 → uh k = adF (43 + k) := fun k hk => (l4' k hk).trans (m1 _ (by omega)).symm
  have KF := fin_K O (by rw [m3 1 (by decide), m3 3 (by decide), m4 0 (by decide), m5 0 (by decide), ← lF 205 (by decide)]) m3 m4 m5 hfr
  obtain ⟨hJF, hEF, -⟩ := eOf_all (D := D) (Y := Y) (I := List.range 246) List.nodup_range (fun c hc => ⟨(crn_all ⟨c, List.mem_range.mp hc⟩).2, List.mem_range.mp hc⟩) O
  have hPF : mP (eOf D Y adF (List.range 246)) (up2 A0 241 1 0) H := mP_of (fun c hc => KF c (List.mem_range.mp hc))
  refine W.vret hx hb hr (fun t ht hW => ⟨⟨fun c => adF (crn c), rfl, ?_, by rw [ht]; exact hPF, (mD_of hJF _).weaken (fun _ _ _ hq => hEF _ hq)⟩, hS.F ht⟩) hS.2.2 dX5_init_126
  show adF 0 = h
  rw [← m3 0 (by decide), a20]
