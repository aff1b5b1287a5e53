/-! PeatRailway(): its loops -/
section NRA
variable {p : Program} {l : Launch} {e : Env} {R : Room} {s : State} {m : MethodId} {args : Array Value} {below : List Frame} {meth : Method} {cd : Code} {Q : State → Prop} {A : Nat → Prop} {aK aV : Nat} {tx : String}
set_option maxHeartbeats 4000000 in
set_option maxRecDepth 100000 in
theorem n5_loop14 {E : mE} (X : nX p s m args cd cX5_init 4 RX5 A) (hT : sT aK aV A s s.heap) (hZ : vk_R RX5 12 tx aK s) (hK : mK E s) (hJ : mJ E) (hE : mTx E 241) (hEA : ∀ q, mA E q → A q) (hR : 4 ≤ R.frames ∧ 85 ≤ R.locals) {h : Nat} {x0 : va_E} (hh : ¬ mA E h) : ∀ (k i : Nat) (H : Heap) (locs : List Loc) (ls : Array Slot) (cells slots : Nat), i + k = 16 → cells ≤ R.cells → slots ≤ R.slots → mP E (gA i) H → va_at E.1 vwCl (h, x0) H → va_S A s.heap H locs → lv_has ls 4 [(0, .ref h), (1, .ref (mad E 241)), (2, .int (nI i))] →
    (∀ (H : Heap) (locs : List Loc) (ls : Array Slot), mP E (gA 16) H → va_at E.1 vwCl (h, x0) H → va_S A s.heap H locs → lv_has ls 4 [(0, .ref h), (1, .ref (mad E 241))] → W p l e R s m args below meth cd H locs cells slots Q (F0 m 39 ls [])) →
    W p l e R s m args below meth cd H locs cells slots Q (F0 m 14 ls []) := by
  have hx := X.1
  have hb := X.2.1
  have hown := X.2.2.2.1
  have hts := X.2.2.2.2.1
  have SX : sX p s m args cd cX5_init 4 RX5 A aK aV := ⟨X.1, X.2.1, X.2.2.1, X.2.2.2.1, X.2.2.2.2.1, hT⟩
  intro k
  induction k with
  | zero =>
    intro i H locs ls cells slots hik hc1 hs1 hP h0 hS hl kk
    have e1 : i = 16 := by omega
    subst e1
    refine lv_iload_n hx hb dX5_init_14 rfl (lv_at hl 2 rfl) ?_
    refine va_ldcS hx hb hown hZ dX5_init_15 ?_
    refine sx_callV (As := []) (rest := [.int (nI 16)]) (st1 := [.int 16, .int (nI 16)]) SX hS hl.1 (sc_len l aK aV) wd_2_7 wd_2_8 wd_2_9 wd_2_11 hd_length ⟨by omega, by omega⟩ ⟨hc1, hs1⟩ (Nat.le_of_ble_eq_true rfl) rfl rfl dX5_init_17 (fun H1 locs1 hz hk hS => ?_)
    refine lv_icmp_ge (tgt := 39) hx hb dX5_init_20 (by decide) (fun _ => ?_) (fun h1 => absurd (show (16 : Int32) ≤ nI 16 by decide) h1)
    exact kk H1 locs1 ls (mP_keep hP hk) (h0.kept (hk _ h0.lt)) hS (lv_sub hl [0, 1] rfl)
  | succ k ih =>
    intro i H locs ls cells slots hik hc1 hs1 hP h0 hS hl kk
    refine lv_iload_n hx hb dX5_init_14 rfl (lv_at hl 2 rfl) ?_
    refine va_ldcS hx hb hown hZ dX5_init_15 ?_
    refine sx_callV (As := []) (rest := [.int (nI i)]) (st1 := [.int 16, .int (nI i)]) SX hS hl.1 (sc_len l aK aV) wd_2_7 wd_2_8 wd_2_9 wd_2_11 hd_length ⟨by omega, by omega⟩ ⟨hc1, hs1⟩ (Nat.le_of_ble_eq_true rfl) rfl rfl dX5_init_17 (fun H1 locs1 hz hk hS => ?_)
    have hP := mP_keep hP hk
    have h0 := h0.kept (hk _ h0.lt)
    refine lv_icmp_ge (tgt := 39) hx hb dX5_init_20 (by decide) (fun h1 => absurd h1 (jlt (n := 16) (by decide) (by omega))) (fun _ => ?_)
    refine lv_aload_n hx hb dX5_init_23 rfl (lv_at hl 1 rfl) ?_
    refine va_ldcS hx hb hown hZ dX5_init_24 ?_
    refine lv_iload_n hx hb dX5_init_26 rfl (lv_at hl 2 rfl) ?_
    refine sx_callV (As := [.int (nI i)]) (rest := [.ref (mad E 241)]) (st1 := [.int (cd0 i), .ref (mad E 241)]) SX hS hl.1 (sc_char l aK aV (i := i) (by omega)) wd_2_19 wd_2_20 wd_2_21 wd_2_22 hd_charAt ⟨by omega, by omega⟩ ⟨hc1, hs1⟩ (Nat.le_of_ble_eq_true rfl) rfl rfl dX5_init_27 (fun H2 locs2 hz2 hk2 hS => ?_)
    have hP := mP_keep hP hk2
    have h0 := h0.kept (hk2 _ h0.lt)
    refine nx_callV (As := [.int (cd0 i)]) (rest := []) (st1 := []) (C := RX1) (T := TX1) (N := 2) (ci := 1) X hK hEA hP hS hl.1 (c1_append l E hJ hE (cd0 i) (gA i) (gA (i + 1)) (gA_s (by omega))) wd_4_8 wd_4_9 wd_4_10 wd_1_13 wd_4_11 hd1_append ⟨by omega, by omega⟩ ⟨hc1, hs1⟩ hE.i (hE.c _) rfl (Nat.le_of_ble_eq_true rfl) rfl rfl dX5_init_30 (fun H3 locs3 hP hz3 hk3 hS => ?_)
    have h0 := h0.kept (hk3 _ h0.lt hh)
    refine lv_iinc (v := nI (i + 1)) (lv' := [(2, .int (nI (i + 1))), (0, .ref h), (1, .ref (mad E 241))]) hx hb dX5_init_33 hl (k := 2) rfl (by rw [← jA_1]; rfl) (by decide) rfl (fun ls hl => ?_)
    refine lv_goto (tgt := 14) hx hb dX5_init_36 (by decide) ?_
    exact ih (i + 1) H3 locs3 ls cells slots (by omega) hc1 hs1 hP h0 hS (lv_sub hl [1, 2, 0] rfl) kk
set_option maxHeartbeats 4000000 in
set_option maxRecDepth 100000 in
theorem n5_loop98 {D : va_G} {Y : Nat → ClassId} {ad0 : Nat → Nat} {c0 : Nat → va_E} {fs : List Value} (X : nX p s m args cd cX5_init 4 RX5 A) (hG : nG s) (hK : va_K D vwCl (mtY Y) s) (hA : ∀ q : Nat, s.heap.size ≤ q → A q) (hR : 3 ≤ R.frames ∧ 66 ≤ R.locals) (hc0 : c0 0 = .inr (5, fs)) (hf4 : fs[4]? = some (.ref (ad0 205))) : ∀ (k i : Nat) (ad : Nat → Nat) (H : Heap) (locs : List Loc) (ls : Array Slot) (cells slots : Nat), i + k = 2 → cells + 20 * k ≤ R.cells → slots + 142 * k ≤ R.slots → (∀ r, r < 206 → ad r = ad0 r) → cOk D A (206 + 20 * i) ad (pcn Y i c0 ad) H → va_S A s.heap H locs → lv_has ls 4 [(0, .ref (ad0 0)), (3, .int (nI i))] →
    (∀ (ad' : Nat → Nat) (H : Heap) (locs : List Loc) (ls : Array Slot), (∀ r, r < 206 → ad' r = ad0 r) → cOk D A 246 ad' (pcn Y 2 c0 ad') H → va_S A s.heap H locs → W p l e R s m args below meth cd H locs (cells + 20 * k) (slots + 142 * k) Q (F0 m 126 ls [])) →
    W p l e R s m args below meth cd H locs cells slots Q (F0 m 98 ls []) := by
  have hx := X.1
  have hb := X.2.1
  have hown := X.2.2.2.1
  have hts := X.2.2.2.2.1
  intro k
  induction k with
  | zero =>
    intro i ad H locs ls cells slots hik hc1 hs1 hlo O hS hl kk
    have e1 : i = 2 := by omega
    subst e1
    have h0 : (tl (206 + 20 * 2) ad (pcn Y 2 c0 ad))[0]? = some (ad0 0, .inr (5, fs)) := by rw [tl_at (by omega), hlo 0 (by omega)]; show some (ad0 0, c0 0) = _; rw [hc0]
    have h1 : (tl (206 + 20 * 2) ad (pcn Y 2 c0 ad))[205]? = some (ad0 205, rwq (Y 3) 2 (fun q => if q < 2 then some (ad (206 + 20 * q)) else none)) := by rw [tl_at (by omega), hlo 205 (by omega)]; rfl
    refine lv_iload_n hx hb dX5_init_98 rfl (lv_at hl 1 rfl) ?_
    refine lv_aload_n hx hb dX5_init_99 rfl (lv_at hl 0 rfl) ?_
    refine va_get (v := .ref (ad0 205)) (ci := 5) (C := RX5) (T := TX5) (N := 6) hx hb hts inlX5 hown hK O.P 0 h0 rfl 4 (by decide) (hts _ wd_2_0) (fun _ h => h) hf4 dX5_init_100 ?_
    refine va_alen (v := (2 : Int32)) hx hb hK O.P 205 3 h1 rfl rfl dX5_init_103 ?_
    refine lv_icmp_ge (tgt := 126) hx hb dX5_init_104 (by decide) (fun _ => ?_) (fun h1 => absurd (show (2 : Int32) ≤ nI 2 by decide) h1)
    exact kk ad H locs ls hlo O hS
  | succ k ih =>
    intro i ad H locs ls cells slots hik hc1 hs1 hlo O hS hl kk
    have h0 : (tl (206 + 20 * i) ad (pcn Y i c0 ad))[0]? = some (ad0 0, .inr (5, fs)) := by rw [tl_at (by omega), hlo 0 (by omega)]; show some (ad0 0, c0 0) = _; rw [hc0]
    have h1 : (tl (206 + 20 * i) ad (pcn Y i c0 ad))[205]? = some (ad0 205, rwq (Y 3) 2 (fun q => if q < i then some (ad (206 + 20 * q)) else none)) := by rw [tl_at (by omega), hlo 205 (by omega)]; rfl
    refine lv_iload_n hx hb dX5_init_98 rfl (lv_at hl 1 rfl) ?_
    refine lv_aload_n hx hb dX5_init_99 rfl (lv_at hl 0 rfl) ?_
    refine va_get (v := .ref (ad0 205)) (ci := 5) (C := RX5) (T := TX5) (N := 6) hx hb hts inlX5 hown hK O.P 0 h0 rfl 4 (by decide) (hts _ wd_2_0) (fun _ h => h) hf4 dX5_init_100 ?_
    refine va_alen (v := (2 : Int32)) hx hb hK O.P 205 3 h1 rfl rfl dX5_init_103 ?_
    refine lv_icmp_ge (tgt := 126) hx hb dX5_init_104 (by decide) (fun h1 => absurd h1 (jlt (n := 2) (by decide) (by omega))) (fun _ => ?_)
    refine lv_aload_n hx hb dX5_init_107 rfl (lv_at hl 0 rfl) ?_
    refine va_get (v := .ref (ad0 205)) (ci := 5) (C := RX5) (T := TX5) (N := 6) hx hb hts inlX5 hown hK O.P 0 h0 rfl 4 (by decide) (hts _ wd_2_0) (fun _ h => h) hf4 dX5_init_108 ?_
    refine lv_iload_n hx hb dX5_init_111 rfl (lv_at hl 1 rfl) ?_
    refine nc_state (i1 := 28) (i2 := 30) X hG hK hA hl.1 O hS dX5_init_112 dX5_init_115 dX5_init_116 wd_1_14 wd_4_13 hR ⟨by omega, by omega⟩ (fun q => Nat.le_of_ble_eq_true rfl) (fun u H1 locs1 O1 hS1 => ?_)
    have a1 : stAd ad (206 + 20 * i) u 205 = ad0 205 := (if_pos (by omega)).trans (hlo 205 (by omega))
    have aN : stAd ad (206 + 20 * i) u (206 + 20 * i) = u 0 := by unfold stAd; rw [if_neg (by omega), Nat.sub_self]
    have k1 := tl_at (N := 206 + 20 * i + 20) (r := 205) (ad := stAd ad (206 + 20 * i) u) (cn := fun r => if r < 206 + 20 * i then pcn Y i c0 ad r else scell Y u (r - (206 + 20 * i))) (by omega)
    rw [a1] at k1
    rw [if_pos (show 205 < 206 + 20 * i by omega)] at k1
    have k2 := tl_at (N := 206 + 20 * i + 20) (r := 206 + 20 * i) (ad := stAd ad (206 + 20 * i) u) (cn := fun r => if r < 206 + 20 * i then pcn Y i c0 ad r else scell Y u (r - (206 + 20 * i))) (by omega)
    rw [aN] at k2
    rw [if_neg (show ¬ 206 + 20 * i < 206 + 20 * i by omega), Nat.sub_self] at k2
    refine va_astq (vs := vSt0 (.ref (u 1)) (.ref (u 2)) (.ref (u 3))) hx hb hK O1.P O1.D hS1 205 3 (206 + 20 * i) 3 (f := fun q => if q < i then some (ad (206 + 20 * q)) else none) k1 rfl k2 rfl (mx_lit (jA_in (n := i) (N := 2) (by omega) (by decide))) dX5_init_119 (fun H3 locs3 hP3 hD3 hS3 => ?_)
    rw [jA_clamp (by omega), ← a1] at hP3 hD3
    have O3 := pcn_step (cOk.set (by omega) hP3 hD3)
    refine lv_iinc (v := nI (i + 1)) (lv' := [(3, .int (nI (i + 1))), (0, .ref (ad0 0))]) hx hb dX5_init_120 hl (k := 1) rfl (by rw [← jA_1]; rfl) (by decide) rfl (fun ls hl => ?_)
    refine lv_goto (tgt := 98) hx hb dX5_init_123 (by decide) ?_
    refine ih (i + 1) (stAd ad (206 + 20 * i) u) H3 locs3 ls (cells + 20) (slots + 142) (by omega) (by omega) (by omega) (fun r hr => (if_pos (by omega)).trans (hlo r hr)) O3 hS3 (lv_sub hl [1, 0] rfl) (fun ad' H locs ls b1 b2 b3 => ?_)
    have := kk ad' H locs ls b1 b2 b3
    rwa [show cells + 20 * (k + 1) = cells + 20 + 20 * k by omega, show slots + 142 * (k + 1) = slots + 142 + 142 * k by omega] at this
end NRA
