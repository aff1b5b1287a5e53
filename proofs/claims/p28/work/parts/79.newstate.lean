/-! new State() within a constructor -/
section NCS
variable {p : Program} {l : Launch} {e : Env} {R : Room} {s : State} {m : MethodId} {args : Array Value} {below : List Frame} {meth : Method} {c : Code} {H : Heap} {locs : List Loc} {cells slots : Nat} {Q : State → Prop}
variable {cc : ByteArray} {pc nL : Nat} {ls : Array Slot} {rest : List Value} {own : String} {A : Nat → Prop} {D : va_G} {Y : Nat → ClassId} {N : Nat} {ad : Nat → Nat} {cn : Nat → va_E}
set_option maxHeartbeats 4000000 in
set_option maxRecDepth 100000 in
theorem nc_state (X : nX p s m args c cc nL own A) (hG : nG s) (hK : va_K D vwCl (mtY Y) s) (hA : ∀ q : Nat, s.heap.size ≤ q → A q) (hls : ls.size = nL) (O : cOk D A N ad cn H) (hS : va_S A s.heap H locs) {i1 i2 : Nat} (d1 : decode cc pc = .ok (.new i1, 3)) (d2 : decode cc (pc + 3) = .ok (.dup, 1)) (d3 : decode cc (pc + 3 + 1) = .ok (.invokespecial i2, 3)) (w1 : Cond.classLink own i1 RX3 ∈ wsL_law) (w2 : Cond.methodLink own i2 yX3_init ∈ wsL_law) (hR : 3 ≤ R.frames ∧ 66 ≤ R.locals) (hc : cells + 20 ≤ R.cells ∧ slots + 142 ≤ R.slots) (hcat : ∀ q : Nat, ((Value.ref q :: rest).map fun v => v.category).sum ≤ 8)
    (kk : ∀ (u : Nat → Nat) (H1 : Heap) (locs1 : List Loc), cOk D A (N + 20) (stAd ad N u) (fun r => if r < N then cn r else scell Y u (r - N)) H1 → va_S A s.heap H1 locs1 → W p l e R s m args below meth c H1 locs1 (cells + 20) (slots + 142) Q (F0 m (pc + 3 + 1 + 3) ls (.ref (u 0) :: rest))) : W p l e R s m args below meth c H locs cells slots Q (F0 m pc ls rest) := by
  obtain ⟨hx, hb, hml, hown, hts, hSt⟩ := X
  refine va_new (ci := 3) (fs := vSt0 .null .null .null) (C := RX3) (T := TX3) (N := 11) hx hb hts inlX3 tyX3 tyX3_ok hown (hts _ w1) (hts _ wd_1_15) (hts _ wd_1_16) hK O.P O.D hS hA rfl (fun j hj => by rcases (show j = 0 ∨ j = 1 ∨ j = 2 ∨ j = 3 ∨ j = 4 ∨ j = 5 ∨ j = 6 ∨ j = 7 ∨ j = 8 ∨ j = 9 ∨ j = 10 by omega) with rfl | rfl | rfl | rfl | rfl | rfl | rfl | rfl | rfl | rfl | rfl <;> rfl) (by omega) (by omega) d1 (fun q H1 hP1 hD1 hS1 => ?_)
  have O1 := cOk.push hP1 hD1
  have hq : A q := by have := O1.2.2 N (by omega); rwa [fset_s] at this
  refine lv_dup hx hb d2 rfl ?_
  have hPc : va_P D vwCl [(q, .inr (3, vSt0 .null .null .null))] H1 := fun k x hk => by
    have hz : k < 1 := (List.getElem?_eq_some_iff.mp hk).1
    rw [show k = 0 by omega] at hk
    cases hk
    have := O1.1 N (by omega)
    rw [fset_s] at this
    dsimp only at this
    rw [if_pos rfl] at this
    exact this
  have hAc : ∀ x, va_A [(q, .inr (3, vSt0 .null .null .null))] H1.size x → A x := fun x hx => by
    rcases hx with ⟨k, e', hk⟩ | hx
    · have hz : k < 1 := (List.getElem?_eq_some_iff.mp hk).1
      rw [show k = 0 by omega] at hk
      cases hk
      exact hq
    · exact hA x (Nat.le_trans hS1.1 hx)
  refine va_callv (va_runI (As := []) (rest := .ref q :: rest) ⟨hx, hb, hml, hown, hts⟩ (i_State l D Y q H1.size) (cwI 0 hts (mx_good (fun w hw => by rcases List.mem_cons.mp hw with rfl | hw; exact wd_4_15; exact hw)) rfl rfl rfl (hts _ wd_1_16) (hts _ w2) (hts _ wd_4_14) rfl (by decide +kernel) ⟨hR.1, hR.2⟩) ⟨fun a U g mk q => by obtain ⟨q0, q1, qP, qK, qG, qF⟩ := q; exact ⟨q0, q1, qP, va_K.moved (u := U) (U := U.calling g mk a) (Vm.Alike.refl U.vm) qK, qG, qF⟩, fun U hU hW => ⟨rfl, by rw [hU], by rw [hU]; exact hPc, va_K.moved hW.alike hK, hG.warm hW, by rw [hU]; exact (((hSt.kept (fun a h1 h2 => hS1.2.1 a h1 h2)).moved hW.alike).narrow hAc).nF⟩⟩ rfl rfl hls rfl (lv_room (hcat q)) d3 ⟨by omega, by omega⟩) hS1 (fun x _ h => hAc x h) hAc (fun u t H2 locs2 ht hvm hw hB hz1 hk1 hS2 => ?_)
  have hw : u 0 = q := hw
  have hB : stOk D Y (va_A [(q, .inr (3, vSt0 .null .null .null))] H1.size) u H2 := by rw [← ht]; exact hB
  have O2 := O1.state (Y := Y) (u := u) (H1 := H2) (e := .inr (3, vSt0 .null .null .null)) (fun x hx => hA x (Nat.le_trans hS1.1 hx)) (by rw [fset_s]; exact hw) (by rw [fset_s]; exact hB) (by rw [fset_s]; exact hk1)
  have O3 : cOk D A (N + 20) (stAd ad N u) (fun r => if r < N then cn r else scell Y u (r - N)) H2 := by
    refine O2.cn (fun r _ => ?_) (fun r hr z => ?_)
    · unfold stAd
      by_cases h : r < N
      · rw [if_pos h, if_pos h, fset_n (by omega)]
      · rw [if_neg h, if_neg h]
    · by_cases h : r < N
      · rw [if_pos h] at z ⊢
        rw [if_neg (show r ≠ N by omega)] at z
        exact z
      · rw [if_neg h] at z ⊢
        exact z
  have := kk u H2 locs2 O3 hS2
  rwa [hw] at this
end NCS
