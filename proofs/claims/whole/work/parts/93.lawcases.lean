/-! THE LAW: what stands still, and its cases -/
theorem mP_out {E E2 : mE} {G : mM} {H H1 : Heap} (h : mP E G H) (hd : ∀ q, mA E q → ¬ mA E2 q) (hk : ∀ q : Nat, q < H.size → ¬ mA E2 q → H1[q]? = H[q]?) : mP E G H1 := fun k q hq => by
  obtain ⟨c, hc, e⟩ := mws_of hq
  exact (h k q hq).kept (hk _ (h k q hq).lt (hd _ ⟨c, List.mem_of_getElem? hc, by rw [e]⟩))
def lwC (p : Program) (s : State) (m : MethodId) (c : Code) (b L : Nat) (xs : Nat → Int32) (Ec Em : mE) (A : Nat → Prop) : Prop :=
  nX p s m #[.ref b] c cL_law 8 RL A ∧ mK Ec s ∧ mK Em s ∧ (mJ Ec ∧ mJ Em) ∧ (mAl Ec 240 ∧ mMo Em 246) ∧ ((∀ q, mA Ec q → A q) ∧ (∀ q, mA Em q → A q)) ∧ (∀ q, mA Ec q → ¬ mA Em q) ∧ va_X b L xs s s.heap ∧ b < s.heap.size ∧ ¬ A b ∧ L ≤ 1536
def lwS (s : State) (Ec Em : mE) (A : Nat → Prop) (k : Nat) (Ac Bm : mM) (H : Heap) (locs : List Loc) : Prop := mP Ec Ac H ∧ mP Em Bm H ∧ Rel k Ac Bm ∧ va_S A s.heap H locs
theorem jA_2 (n : Nat) : nI n + 2 = nI (n + 2) := by
  rw [show nI (n + 2) = nI (n + 1 + 1) from rfl, ← jA_1, ← jA_1, Int32.add_assoc]
  rfl
theorem st_segment {k : Nat} {A B : mM} (h : Rel k A B) (x1 x2 : Int32) : ∃ r, x5_segment x1 x2 A = some r ∧ x6_segment x1 x2 B = some r := by
  have := rd_segment B h.1.1 h.1.2.1 x1 x2
  rwa [sr_id] at this
theorem st_train {k : Nat} {A B : mM} (h : Rel k A B) (x1 x2 : Int32) : ∃ r, x5_train x1 x2 A = some r ∧ x6_train x1 x2 B = some r := by
  have := rd_train B h.1.1 h.1.2.1 x1 x2
  rwa [sr_id] at this
theorem st_why {k : Nat} {A B : mM} (h : Rel k A B) (x1 : Int32) : ∃ r, x5_why x1 A = some r ∧ x6_why x1 B = some r := by
  have := rd_why B h.1.1 h.1.2.1 x1
  rwa [sr_id] at this
theorem st_account {k : Nat} {A B : mM} (h : Rel k A B) (x1 : Int32) : ∃ r, x5_account x1 A = some r ∧ x6_account x1 B = some r := by
  have := rd_account B h.1.1 h.1.2.1 x1
  rwa [sr_id] at this
theorem st_count {k : Nat} {A B : mM} (h : Rel k A B) (x1 : Int32) : ∃ r, x5_count x1 A = some r ∧ x6_count x1 B = some r := rd_count h x1
theorem st_setting {k : Nat} {A B : mM} (h : Rel k A B) (x1 : Int32) : ∃ r, x5_setting x1 A = some r ∧ x6_setting x1 B = some r := by
  have := rd_setting B h.1.1 x1
  rwa [sr_id] at this
theorem st_mean {k : Nat} {A B : mM} (h : Rel k A B) : ∃ r, x5_meanSinking A = some r ∧ x6_meanSinking B = some r := by
  have := rd_mean B h.1.1 h.1.2.1
  rw [sr_id] at this
  exact ⟨_, this.1, this.2⟩
theorem lg_cmp_rf (x : Int64) : lg_cmp x x = 0 := (lg_cmp_eq x x).mpr rfl
section LWK
variable {p : Program} {l : Launch} {e : Env} {s : State} {m : MethodId} {below : List Frame} {meth : Method} {cd : Code} {H : Heap} {locs : List Loc} {cells slots : Nat} {Q : State → Prop} {ls : Array Slot} {rest : List Value} {b L i k : Nat} {xs : Nat → Int32} {Ec Em : mE} {A : Nat → Prop} {Ac Bm : mM} {pc : Nat}
abbrev lwL (ls : Array Slot) (b : Nat) (Ec Em : mE) (i : Nat) : Prop := lv_has ls 8 [(0, .ref b), (1, .ref (mad Ec 240)), (2, .ref (mad Em 246)), (3, .int (nI i))]
theorem lw_rd1 (C : lwC p s m cd b L xs Ec Em A) (hS : va_S A s.heap H locs) (hl : lwL ls b Ec Em i) (hi : i + 2 < L) (d0 : decode cL_law pc = .ok (.aload_n 0, 1)) (d1 : decode cL_law (pc + 1) = .ok (.iload_n 3, 1)) (d2 : decode cL_law (pc + 1 + 1) = .ok (.iconst 1, 1)) (d3 : decode cL_law (pc + 1 + 1 + 1) = .ok (.iadd, 1)) (d4 : decode cL_law (pc + 1 + 1 + 1 + 1) = .ok (.iaload, 1))
    (kk : W p l e room_1 s m #[Value.ref b] below meth cd H locs cells slots Q (F0 m (pc + 5) ls (.int (xs (i + 1)) :: rest))) : W p l e room_1 s m #[Value.ref b] below meth cd H locs cells slots Q (F0 m pc ls rest) := by
  obtain ⟨X, -, -, -, -, -, -, hX, hbl, hbA, hL⟩ := C
  obtain ⟨hx, hb, -⟩ := X
  refine lv_aload_n hx hb d0 rfl (lv_at hl 0 rfl) ?_
  refine lv_iload_n hx hb d1 rfl (lv_at hl 3 rfl) ?_
  refine lv_iconst (v := (1 : Int32)) hx hb d2 (by decide) ?_
  refine lv_iadd hx hb d3 ?_
  rw [jA_1]
  refine va_sld hx hb hX hbl hbA hS (vp_in_nI (by omega) (by omega)) d4 ?_
  rw [nI_clamp (by omega)]
  exact kk
theorem lw_rd2 (C : lwC p s m cd b L xs Ec Em A) (hS : va_S A s.heap H locs) (hl : lwL ls b Ec Em i) (hi : i + 2 < L) (d0 : decode cL_law pc = .ok (.aload_n 0, 1)) (d1 : decode cL_law (pc + 1) = .ok (.iload_n 3, 1)) (d2 : decode cL_law (pc + 1 + 1) = .ok (.iconst 2, 1)) (d3 : decode cL_law (pc + 1 + 1 + 1) = .ok (.iadd, 1)) (d4 : decode cL_law (pc + 1 + 1 + 1 + 1) = .ok (.iaload, 1))
    (kk : W p l e room_1 s m #[Value.ref b] below meth cd H locs cells slots Q (F0 m (pc + 5) ls (.int (xs (i + 2)) :: rest))) : W p l e room_1 s m #[Value.ref b] below meth cd H locs cells slots Q (F0 m pc ls rest) := by
  obtain ⟨X, -, -, -, -, -, -, hX, hbl, hbA, hL⟩ := C
  obtain ⟨hx, hb, -⟩ := X
  refine lv_aload_n hx hb d0 rfl (lv_at hl 0 rfl) ?_
  refine lv_iload_n hx hb d1 rfl (lv_at hl 3 rfl) ?_
  refine lv_iconst (v := (2 : Int32)) hx hb d2 (by decide) ?_
  refine lv_iadd hx hb d3 ?_
  rw [jA_2]
  refine va_sld hx hb hX hbl hbA hS (vp_in_nI (by omega) (by omega)) d4 ?_
  rw [nI_clamp (by omega)]
  exact kk
set_option maxHeartbeats 1000000 in
set_option maxRecDepth 100000 in
theorem lk_type (C : lwC p s m cd b L xs Ec Em A) (S : lwS s Ec Em A k Ac Bm H locs) (hk : k < 3000) (hl : lwL ls b Ec Em i) (hi : i + 2 < L) (hc1 : cells ≤ 600000) (hs1 : slots ≤ 7302250)
    (kk : ∀ (H1 : Heap) (locs1 : List Loc) (ls1 : Array Slot) (Ac1 Bm1 : mM), lwS s Ec Em A (k + 1) Ac1 Bm1 H1 locs1 → lwL ls1 b Ec Em i → W p l e room_1 s m #[Value.ref b] below meth cd H1 locs1 cells slots Q (F0 m 762 ls1 [])) : W p l e room_1 s m #[Value.ref b] below meth cd H locs cells slots Q (F0 m 148 ls []) := by
  obtain ⟨X, hK5, hK6, ⟨hJ5, hJ6⟩, ⟨hc5, hc6⟩, ⟨hE5, hE6⟩, hdis, -⟩ := id C
  obtain ⟨hP5, hP6, hRel, hS⟩ := S
  have hx := X.1
  have hb := X.2.1
  have hdis2 : ∀ q, mA Em q → ¬ mA Ec q := fun q h1 h2 => hdis q h2 h1
  obtain ⟨r, A1, B1, e5, e6, hRel⟩ := rel_type hRel (xs (i + 1))
  refine lv_aload_n hx hb dL_law_148 rfl (lv_at hl 1 rfl) ?_
  refine lw_rd1 C hS hl hi dL_law_149 dL_law_150 dL_law_151 dL_law_152 dL_law_153 ?_
  refine nx_callV (As := [.int (xs (i + 1))]) (rest := []) (st1 := [.int r]) (C := RX5) (T := TX5) (N := 6) (ci := 5) (E := Ec) X hK5 hE5 hP5 hS hl.1 (c5_type l Ec hJ5 hc5 (xs (i + 1)) Ac (r, A1) e5) wd_8_8 wd_8_9 wd_8_10 wd_1_2 wd_8_11 hd5_type ⟨Nat.le_of_ble_eq_true rfl, Nat.le_of_ble_eq_true rfl⟩ ⟨hc1, hs1⟩ hc5.i (hc5.c _) rfl (Nat.le_of_ble_eq_true rfl) rfl rfl dL_law_154 (fun H5 locs5 hP5 _ hk5 hS => ?_)
  have hP6 := mP_out hP6 hdis2 hk5
  refine lv_aload_n hx hb dL_law_157 rfl (lv_at hl 2 rfl) ?_
  refine lw_rd1 C hS hl hi dL_law_158 dL_law_159 dL_law_160 dL_law_161 dL_law_162 ?_
  refine nx_callV (As := [.int (xs (i + 1))]) (rest := [.int r]) (st1 := [.int r, .int r]) (C := RX6) (T := TX6) (N := 11) (ci := 6) (E := Em) X hK6 hE6 hP6 hS hl.1 (c6_type l Em hJ6 hc6 (xs (i + 1)) Bm (r, B1) e6) wd_8_20 wd_8_21 wd_8_22 wd_1_5 wd_8_23 hd6_type ⟨Nat.le_of_ble_eq_true rfl, Nat.le_of_ble_eq_true rfl⟩ ⟨hc1, hs1⟩ hc6.i (hc6.c _) rfl (Nat.le_of_ble_eq_true rfl) rfl rfl dL_law_163 (fun H6 locs6 hP6 _ hk6 hS => ?_)
  have hP5 := mP_out hP5 hdis hk6
  refine lv_icmp_eq (tgt := 762) hx hb dL_law_166 (by decide) (fun _ => ?_) (fun h => absurd rfl h)
  exact kk H6 locs6 ls A1 B1 ⟨hP5, hP6, hRel, hS⟩ hl
set_option maxHeartbeats 1000000 in
set_option maxRecDepth 100000 in
theorem lk_clear (C : lwC p s m cd b L xs Ec Em A) (S : lwS s Ec Em A k Ac Bm H locs) (hk : k < 3000) (hl : lwL ls b Ec Em i) (hi : i + 2 < L) (hc1 : cells ≤ 600000) (hs1 : slots ≤ 7302250)
    (kk : ∀ (H1 : Heap) (locs1 : List Loc) (ls1 : Array Slot) (Ac1 Bm1 : mM), lwS s Ec Em A (k + 1) Ac1 Bm1 H1 locs1 → lwL ls1 b Ec Em i → W p l e room_1 s m #[Value.ref b] below meth cd H1 locs1 cells slots Q (F0 m 762 ls1 [])) : W p l e room_1 s m #[Value.ref b] below meth cd H locs cells slots Q (F0 m 171 ls []) := by
  obtain ⟨X, hK5, hK6, ⟨hJ5, hJ6⟩, ⟨hc5, hc6⟩, ⟨hE5, hE6⟩, hdis, -⟩ := id C
  obtain ⟨hP5, hP6, hRel, hS⟩ := S
  have hx := X.1
  have hb := X.2.1
  have hdis2 : ∀ q, mA Em q → ¬ mA Ec q := fun q h1 h2 => hdis q h2 h1
  obtain ⟨r, A1, B1, e5, e6, hRel⟩ := rel_clear hRel
  refine lv_aload_n hx hb dL_law_171 rfl (lv_at hl 1 rfl) ?_
  refine nx_callV (As := []) (rest := []) (st1 := [.int r]) (C := RX5) (T := TX5) (N := 6) (ci := 5) (E := Ec) X hK5 hE5 hP5 hS hl.1 (c5_clear l Ec hJ5 hc5 Ac (r, A1) e5) wd_9_4 wd_9_5 wd_9_6 wd_1_2 wd_9_7 hd5_clear ⟨Nat.le_of_ble_eq_true rfl, Nat.le_of_ble_eq_true rfl⟩ ⟨hc1, hs1⟩ hc5.i (hc5.c _) rfl (Nat.le_of_ble_eq_true rfl) rfl rfl dL_law_172 (fun H5 locs5 hP5 _ hk5 hS => ?_)
  have hP6 := mP_out hP6 hdis2 hk5
  refine lv_aload_n hx hb dL_law_175 rfl (lv_at hl 2 rfl) ?_
  refine nx_callV (As := []) (rest := [.int r]) (st1 := [.int r, .int r]) (C := RX6) (T := TX6) (N := 11) (ci := 6) (E := Em) X hK6 hE6 hP6 hS hl.1 (c6_clear l Em hJ6 hc6 Bm (r, B1) e6) wd_9_8 wd_9_9 wd_9_10 wd_1_5 wd_9_11 hd6_clear ⟨Nat.le_of_ble_eq_true rfl, Nat.le_of_ble_eq_true rfl⟩ ⟨hc1, hs1⟩ hc6.i (hc6.c _) rfl (Nat.le_of_ble_eq_true rfl) rfl rfl dL_law_176 (fun H6 locs6 hP6 _ hk6 hS => ?_)
  have hP5 := mP_out hP5 hdis hk6
  refine lv_icmp_eq (tgt := 762) hx hb dL_law_179 (by decide) (fun _ => ?_) (fun h => absurd rfl h)
  exact kk H6 locs6 ls A1 B1 ⟨hP5, hP6, hRel, hS⟩ hl
set_option maxHeartbeats 1000000 in
set_option maxRecDepth 100000 in
theorem lk_fault (C : lwC p s m cd b L xs Ec Em A) (S : lwS s Ec Em A k Ac Bm H locs) (hk : k < 3000) (hl : lwL ls b Ec Em i) (hi : i + 2 < L) (hc1 : cells ≤ 600000) (hs1 : slots ≤ 7302250)
    (kk : ∀ (H1 : Heap) (locs1 : List Loc) (ls1 : Array Slot) (Ac1 Bm1 : mM), lwS s Ec Em A (k + 1) Ac1 Bm1 H1 locs1 → lwL ls1 b Ec Em i → W p l e room_1 s m #[Value.ref b] below meth cd H1 locs1 cells slots Q (F0 m 762 ls1 [])) : W p l e room_1 s m #[Value.ref b] below meth cd H locs cells slots Q (F0 m 184 ls []) := by
  obtain ⟨X, hK5, hK6, ⟨hJ5, hJ6⟩, ⟨hc5, hc6⟩, ⟨hE5, hE6⟩, hdis, -⟩ := id C
  obtain ⟨hP5, hP6, hRel, hS⟩ := S
  have hx := X.1
  have hb := X.2.1
  have hdis2 : ∀ q, mA Em q → ¬ mA Ec q := fun q h1 h2 => hdis q h2 h1
  obtain ⟨r, B1, e5, e6, hRel⟩ := rel_fault hRel
  refine lv_aload_n hx hb dL_law_184 rfl (lv_at hl 1 rfl) ?_
  refine nx_callV (As := []) (rest := []) (st1 := [.int r]) (C := RX5) (T := TX5) (N := 6) (ci := 5) (E := Ec) X hK5 hE5 hP5 hS hl.1 (c5_fault l Ec hJ5 hc5 Ac r e5) wd_9_12 wd_9_13 wd_9_14 wd_1_2 wd_9_15 hd5_fault ⟨Nat.le_of_ble_eq_true rfl, Nat.le_of_ble_eq_true rfl⟩ ⟨hc1, hs1⟩ hc5.i (hc5.c _) rfl (Nat.le_of_ble_eq_true rfl) rfl rfl dL_law_185 (fun H5 locs5 hP5 _ hk5 hS => ?_)
  have hP6 := mP_out hP6 hdis2 hk5
  refine lv_aload_n hx hb dL_law_188 rfl (lv_at hl 2 rfl) ?_
  refine nx_callV (As := []) (rest := [.int r]) (st1 := [.int r, .int r]) (C := RX6) (T := TX6) (N := 11) (ci := 6) (E := Em) X hK6 hE6 hP6 hS hl.1 (c6_fault l Em hJ6 hc6 Bm (r, B1) e6) wd_9_20 wd_9_21 wd_9_22 wd_1_5 wd_9_23 hd6_fault ⟨Nat.le_of_ble_eq_true rfl, Nat.le_of_ble_eq_true rfl⟩ ⟨hc1, hs1⟩ hc6.i (hc6.c _) rfl (Nat.le_of_ble_eq_true rfl) rfl rfl dL_law_189 (fun H6 locs6 hP6 _ hk6 hS => ?_)
  have hP5 := mP_out hP5 hdis hk6
  refine lv_icmp_eq (tgt := 762) hx hb dL_law_192 (by decide) (fun _ => ?_) (fun h => absurd rfl h)
  exact kk H6 locs6 ls Ac B1 ⟨hP5, hP6, hRel, hS⟩ hl
set_option maxHeartbeats 1000000 in
set_option maxRecDepth 100000 in
theorem lk_layTrack (C : lwC p s m cd b L xs Ec Em A) (S : lwS s Ec Em A k Ac Bm H locs) (hk : k < 3000) (hl : lwL ls b Ec Em i) (hi : i + 2 < L) (hc1 : cells ≤ 600000) (hs1 : slots ≤ 7302250)
    (kk : ∀ (H1 : Heap) (locs1 : List Loc) (ls1 : Array Slot) (Ac1 Bm1 : mM), lwS s Ec Em A (k + 1) Ac1 Bm1 H1 locs1 → lwL ls1 b Ec Em i → W p l e room_1 s m #[Value.ref b] below meth cd H1 locs1 cells slots Q (F0 m 762 ls1 [])) : W p l e room_1 s m #[Value.ref b] below meth cd H locs cells slots Q (F0 m 197 ls []) := by
  obtain ⟨X, hK5, hK6, ⟨hJ5, hJ6⟩, ⟨hc5, hc6⟩, ⟨hE5, hE6⟩, hdis, -⟩ := id C
  obtain ⟨hP5, hP6, hRel, hS⟩ := S
  have hx := X.1
  have hb := X.2.1
  have hdis2 : ∀ q, mA Em q → ¬ mA Ec q := fun q h1 h2 => hdis q h2 h1
  obtain ⟨r, A1, B1, e5, e6, hRel⟩ := rel_layTrack hRel
  refine lv_aload_n hx hb dL_law_197 rfl (lv_at hl 1 rfl) ?_
  refine nx_callV (As := []) (rest := []) (st1 := [.int r]) (C := RX5) (T := TX5) (N := 6) (ci := 5) (E := Ec) X hK5 hE5 hP5 hS hl.1 (c5_layTrack l Ec hJ5 hc5 Ac (r, A1) e5) wd_10_10 wd_10_11 wd_10_12 wd_1_2 wd_10_13 hd5_layTrack ⟨Nat.le_of_ble_eq_true rfl, Nat.le_of_ble_eq_true rfl⟩ ⟨hc1, hs1⟩ hc5.i (hc5.c _) rfl (Nat.le_of_ble_eq_true rfl) rfl rfl dL_law_198 (fun H5 locs5 hP5 _ hk5 hS => ?_)
  have hP6 := mP_out hP6 hdis2 hk5
  refine lv_aload_n hx hb dL_law_201 rfl (lv_at hl 2 rfl) ?_
  refine nx_callV (As := []) (rest := [.int r]) (st1 := [.int r, .int r]) (C := RX6) (T := TX6) (N := 11) (ci := 6) (E := Em) X hK6 hE6 hP6 hS hl.1 (c6_layTrack l Em hJ6 hc6 Bm (r, B1) e6) wd_12_18 wd_12_19 wd_12_20 wd_1_5 wd_12_21 hd6_layTrack ⟨Nat.le_of_ble_eq_true rfl, Nat.le_of_ble_eq_true rfl⟩ ⟨hc1, hs1⟩ hc6.i (hc6.c _) rfl (Nat.le_of_ble_eq_true rfl) rfl rfl dL_law_202 (fun H6 locs6 hP6 _ hk6 hS => ?_)
  have hP5 := mP_out hP5 hdis hk6
  refine lv_icmp_eq (tgt := 762) hx hb dL_law_205 (by decide) (fun _ => ?_) (fun h => absurd rfl h)
  exact kk H6 locs6 ls A1 B1 ⟨hP5, hP6, hRel, hS⟩ hl
set_option maxHeartbeats 1000000 in
set_option maxRecDepth 100000 in
theorem lk_set (C : lwC p s m cd b L xs Ec Em A) (S : lwS s Ec Em A k Ac Bm H locs) (hk : k < 3000) (hl : lwL ls b Ec Em i) (hi : i + 2 < L) (hc1 : cells ≤ 600000) (hs1 : slots ≤ 7302250)
    (kk : ∀ (H1 : Heap) (locs1 : List Loc) (ls1 : Array Slot) (Ac1 Bm1 : mM), lwS s Ec Em A (k + 1) Ac1 Bm1 H1 locs1 → lwL ls1 b Ec Em i → W p l e room_1 s m #[Value.ref b] below meth cd H1 locs1 cells slots Q (F0 m 762 ls1 [])) : W p l e room_1 s m #[Value.ref b] below meth cd H locs cells slots Q (F0 m 210 ls []) := by
  obtain ⟨X, hK5, hK6, ⟨hJ5, hJ6⟩, ⟨hc5, hc6⟩, ⟨hE5, hE6⟩, hdis, -⟩ := id C
  obtain ⟨hP5, hP6, hRel, hS⟩ := S
  have hx := X.1
  have hb := X.2.1
  have hdis2 : ∀ q, mA Em q → ¬ mA Ec q := fun q h1 h2 => hdis q h2 h1
  obtain ⟨r, A1, B1, e5, e6, hRel⟩ := rel_set hRel (xs (i + 1)) (xs (i + 2))
  refine lv_aload_n hx hb dL_law_210 rfl (lv_at hl 1 rfl) ?_
  refine lw_rd1 C hS hl hi dL_law_211 dL_law_212 dL_law_213 dL_law_214 dL_law_215 ?_
  refine lw_rd2 C hS hl hi dL_law_216 dL_law_217 dL_law_218 dL_law_219 dL_law_220 ?_
  refine nx_callV (As := [.int (xs (i + 1)), .int (xs (i + 2))]) (rest := []) (st1 := [.int r]) (C := RX5) (T := TX5) (N := 6) (ci := 5) (E := Ec) X hK5 hE5 hP5 hS hl.1 (c5_set l Ec hJ5 hc5 (xs (i + 1)) (xs (i + 2)) Ac (r, A1) e5) wd_13_15 wd_13_16 wd_13_17 wd_1_2 wd_13_18 hd5_set ⟨Nat.le_of_ble_eq_true rfl, Nat.le_of_ble_eq_true rfl⟩ ⟨hc1, hs1⟩ hc5.i (hc5.c _) rfl (Nat.le_of_ble_eq_true rfl) rfl rfl dL_law_221 (fun H5 locs5 hP5 _ hk5 hS => ?_)
  have hP6 := mP_out hP6 hdis2 hk5
  refine lv_aload_n hx hb dL_law_224 rfl (lv_at hl 2 rfl) ?_
  refine lw_rd1 C hS hl hi dL_law_225 dL_law_226 dL_law_227 dL_law_228 dL_law_229 ?_
  refine lw_rd2 C hS hl hi dL_law_230 dL_law_231 dL_law_232 dL_law_233 dL_law_234 ?_
  refine nx_callV (As := [.int (xs (i + 1)), .int (xs (i + 2))]) (rest := [.int r]) (st1 := [.int r, .int r]) (C := RX6) (T := TX6) (N := 11) (ci := 6) (E := Em) X hK6 hE6 hP6 hS hl.1 (c6_set l Em hJ6 hc6 (xs (i + 1)) (xs (i + 2)) Bm (r, B1) e6) wd_14_1 wd_14_2 wd_14_3 wd_1_5 wd_14_4 hd6_set ⟨Nat.le_of_ble_eq_true rfl, Nat.le_of_ble_eq_true rfl⟩ ⟨hc1, hs1⟩ hc6.i (hc6.c _) rfl (Nat.le_of_ble_eq_true rfl) rfl rfl dL_law_235 (fun H6 locs6 hP6 _ hk6 hS => ?_)
  have hP5 := mP_out hP5 hdis hk6
  refine lv_icmp_eq (tgt := 762) hx hb dL_law_238 (by decide) (fun _ => ?_) (fun h => absurd rfl h)
  exact kk H6 locs6 ls A1 B1 ⟨hP5, hP6, hRel, hS⟩ hl
set_option maxHeartbeats 1000000 in
set_option maxRecDepth 100000 in
theorem lk_dig (C : lwC p s m cd b L xs Ec Em A) (S : lwS s Ec Em A k Ac Bm H locs) (hk : k < 3000) (hl : lwL ls b Ec Em i) (hi : i + 2 < L) (hc1 : cells ≤ 600000) (hs1 : slots ≤ 7302250)
    (kk : ∀ (H1 : Heap) (locs1 : List Loc) (ls1 : Array Slot) (Ac1 Bm1 : mM), lwS s Ec Em A (k + 1) Ac1 Bm1 H1 locs1 → lwL ls1 b Ec Em i → W p l e room_1 s m #[Value.ref b] below meth cd H1 locs1 cells slots Q (F0 m 762 ls1 [])) : W p l e room_1 s m #[Value.ref b] below meth cd H locs cells slots Q (F0 m 243 ls []) := by
  obtain ⟨X, hK5, hK6, ⟨hJ5, hJ6⟩, ⟨hc5, hc6⟩, ⟨hE5, hE6⟩, hdis, -⟩ := id C
  obtain ⟨hP5, hP6, hRel, hS⟩ := S
  have hx := X.1
  have hb := X.2.1
  have hdis2 : ∀ q, mA Em q → ¬ mA Ec q := fun q h1 h2 => hdis q h2 h1
  obtain ⟨r, A1, B1, e5, e6, hRel⟩ := rel_dig hRel (xs (i + 1))
  refine lv_aload_n hx hb dL_law_243 rfl (lv_at hl 1 rfl) ?_
  refine lw_rd1 C hS hl hi dL_law_244 dL_law_245 dL_law_246 dL_law_247 dL_law_248 ?_
  refine nx_callV (As := [.int (xs (i + 1))]) (rest := []) (st1 := [.int r]) (C := RX5) (T := TX5) (N := 6) (ci := 5) (E := Ec) X hK5 hE5 hP5 hS hl.1 (c5_dig l Ec hJ5 hc5 (xs (i + 1)) Ac (r, A1) e5) wd_14_12 wd_14_13 wd_14_14 wd_1_2 wd_14_15 hd5_dig ⟨Nat.le_of_ble_eq_true rfl, Nat.le_of_ble_eq_true rfl⟩ ⟨hc1, hs1⟩ hc5.i (hc5.c _) rfl (Nat.le_of_ble_eq_true rfl) rfl rfl dL_law_249 (fun H5 locs5 hP5 _ hk5 hS => ?_)
  have hP6 := mP_out hP6 hdis2 hk5
  refine lv_aload_n hx hb dL_law_252 rfl (lv_at hl 2 rfl) ?_
  refine lw_rd1 C hS hl hi dL_law_253 dL_law_254 dL_law_255 dL_law_256 dL_law_257 ?_
  refine nx_callV (As := [.int (xs (i + 1))]) (rest := [.int r]) (st1 := [.int r, .int r]) (C := RX6) (T := TX6) (N := 11) (ci := 6) (E := Em) X hK6 hE6 hP6 hS hl.1 (c6_dig l Em hJ6 hc6 (xs (i + 1)) Bm (r, B1) e6) wd_14_18 wd_14_19 wd_14_20 wd_1_5 wd_14_21 hd6_dig ⟨Nat.le_of_ble_eq_true rfl, Nat.le_of_ble_eq_true rfl⟩ ⟨hc1, hs1⟩ hc6.i (hc6.c _) rfl (Nat.le_of_ble_eq_true rfl) rfl rfl dL_law_258 (fun H6 locs6 hP6 _ hk6 hS => ?_)
  have hP5 := mP_out hP5 hdis hk6
  refine lv_icmp_eq (tgt := 762) hx hb dL_law_261 (by decide) (fun _ => ?_) (fun h => absurd rfl h)
  exact kk H6 locs6 ls A1 B1 ⟨hP5, hP6, hRel, hS⟩ hl
set_option maxHeartbeats 1000000 in
set_option maxRecDepth 100000 in
theorem lk_addTrain (C : lwC p s m cd b L xs Ec Em A) (S : lwS s Ec Em A k Ac Bm H locs) (hk : k < 3000) (hl : lwL ls b Ec Em i) (hi : i + 2 < L) (hc1 : cells ≤ 600000) (hs1 : slots ≤ 7302250)
    (kk : ∀ (H1 : Heap) (locs1 : List Loc) (ls1 : Array Slot) (Ac1 Bm1 : mM), lwS s Ec Em A (k + 1) Ac1 Bm1 H1 locs1 → lwL ls1 b Ec Em i → W p l e room_1 s m #[Value.ref b] below meth cd H1 locs1 cells slots Q (F0 m 762 ls1 [])) : W p l e room_1 s m #[Value.ref b] below meth cd H locs cells slots Q (F0 m 266 ls []) := by
  obtain ⟨X, hK5, hK6, ⟨hJ5, hJ6⟩, ⟨hc5, hc6⟩, ⟨hE5, hE6⟩, hdis, -⟩ := id C
  obtain ⟨hP5, hP6, hRel, hS⟩ := S
  have hx := X.1
  have hb := X.2.1
  have hdis2 : ∀ q, mA Em q → ¬ mA Ec q := fun q h1 h2 => hdis q h2 h1
  obtain ⟨r, A1, B1, e5, e6, hRel⟩ := rel_addTrain hRel (xs (i + 1)) (xs (i + 2))
  refine lv_aload_n hx hb dL_law_266 rfl (lv_at hl 1 rfl) ?_
  refine lw_rd1 C hS hl hi dL_law_267 dL_law_268 dL_law_269 dL_law_270 dL_law_271 ?_
  refine lw_rd2 C hS hl hi dL_law_272 dL_law_273 dL_law_274 dL_law_275 dL_law_276 ?_
  refine nx_callV (As := [.int (xs (i + 1)), .int (xs (i + 2))]) (rest := []) (st1 := [.int r]) (C := RX5) (T := TX5) (N := 6) (ci := 5) (E := Ec) X hK5 hE5 hP5 hS hl.1 (c5_addTrain l Ec hJ5 hc5 (xs (i + 1)) (xs (i + 2)) Ac (r, A1) e5) wd_14_22 wd_14_23 wd_15_0 wd_1_2 wd_15_1 hd5_addTrain ⟨Nat.le_of_ble_eq_true rfl, Nat.le_of_ble_eq_true rfl⟩ ⟨hc1, hs1⟩ hc5.i (hc5.c _) rfl (Nat.le_of_ble_eq_true rfl) rfl rfl dL_law_277 (fun H5 locs5 hP5 _ hk5 hS => ?_)
  have hP6 := mP_out hP6 hdis2 hk5
  refine lv_aload_n hx hb dL_law_280 rfl (lv_at hl 2 rfl) ?_
  refine lw_rd1 C hS hl hi dL_law_281 dL_law_282 dL_law_283 dL_law_284 dL_law_285 ?_
  refine lw_rd2 C hS hl hi dL_law_286 dL_law_287 dL_law_288 dL_law_289 dL_law_290 ?_
  refine nx_callV (As := [.int (xs (i + 1)), .int (xs (i + 2))]) (rest := [.int r]) (st1 := [.int r, .int r]) (C := RX6) (T := TX6) (N := 11) (ci := 6) (E := Em) X hK6 hE6 hP6 hS hl.1 (c6_addTrain l Em hJ6 hc6 (xs (i + 1)) (xs (i + 2)) Bm (r, B1) e6) wd_15_14 wd_15_15 wd_15_16 wd_1_5 wd_15_17 hd6_addTrain ⟨Nat.le_of_ble_eq_true rfl, Nat.le_of_ble_eq_true rfl⟩ ⟨hc1, hs1⟩ hc6.i (hc6.c _) rfl (Nat.le_of_ble_eq_true rfl) rfl rfl dL_law_291 (fun H6 locs6 hP6 _ hk6 hS => ?_)
  have hP5 := mP_out hP5 hdis hk6
  refine lv_icmp_eq (tgt := 762) hx hb dL_law_294 (by decide) (fun _ => ?_) (fun h => absurd rfl h)
  exact kk H6 locs6 ls A1 B1 ⟨hP5, hP6, hRel, hS⟩ hl
set_option maxHeartbeats 1000000 in
set_option maxRecDepth 100000 in
theorem lk_dropTrain (C : lwC p s m cd b L xs Ec Em A) (S : lwS s Ec Em A k Ac Bm H locs) (hk : k < 3000) (hl : lwL ls b Ec Em i) (hi : i + 2 < L) (hc1 : cells ≤ 600000) (hs1 : slots ≤ 7302250)
    (kk : ∀ (H1 : Heap) (locs1 : List Loc) (ls1 : Array Slot) (Ac1 Bm1 : mM), lwS s Ec Em A (k + 1) Ac1 Bm1 H1 locs1 → lwL ls1 b Ec Em i → W p l e room_1 s m #[Value.ref b] below meth cd H1 locs1 cells slots Q (F0 m 762 ls1 [])) : W p l e room_1 s m #[Value.ref b] below meth cd H locs cells slots Q (F0 m 299 ls []) := by
  obtain ⟨X, hK5, hK6, ⟨hJ5, hJ6⟩, ⟨hc5, hc6⟩, ⟨hE5, hE6⟩, hdis, -⟩ := id C
  obtain ⟨hP5, hP6, hRel, hS⟩ := S
  have hx := X.1
  have hb := X.2.1
  have hdis2 : ∀ q, mA Em q → ¬ mA Ec q := fun q h1 h2 => hdis q h2 h1
  obtain ⟨r, A1, B1, e5, e6, hRel⟩ := rel_dropTrain hRel (xs (i + 1))
  refine lv_aload_n hx hb dL_law_299 rfl (lv_at hl 1 rfl) ?_
  refine lw_rd1 C hS hl hi dL_law_300 dL_law_301 dL_law_302 dL_law_303 dL_law_304 ?_
  refine nx_callV (As := [.int (xs (i + 1))]) (rest := []) (st1 := [.int r]) (C := RX5) (T := TX5) (N := 6) (ci := 5) (E := Ec) X hK5 hE5 hP5 hS hl.1 (c5_dropTrain l Ec hJ5 hc5 (xs (i + 1)) Ac (r, A1) e5) wd_15_22 wd_15_23 wd_16_0 wd_1_2 wd_16_1 hd5_dropTrain ⟨Nat.le_of_ble_eq_true rfl, Nat.le_of_ble_eq_true rfl⟩ ⟨hc1, hs1⟩ hc5.i (hc5.c _) rfl (Nat.le_of_ble_eq_true rfl) rfl rfl dL_law_305 (fun H5 locs5 hP5 _ hk5 hS => ?_)
  have hP6 := mP_out hP6 hdis2 hk5
  refine lv_aload_n hx hb dL_law_308 rfl (lv_at hl 2 rfl) ?_
  refine lw_rd1 C hS hl hi dL_law_309 dL_law_310 dL_law_311 dL_law_312 dL_law_313 ?_
  refine nx_callV (As := [.int (xs (i + 1))]) (rest := [.int r]) (st1 := [.int r, .int r]) (C := RX6) (T := TX6) (N := 11) (ci := 6) (E := Em) X hK6 hE6 hP6 hS hl.1 (c6_dropTrain l Em hJ6 hc6 (xs (i + 1)) Bm (r, B1) e6) wd_16_8 wd_16_9 wd_16_10 wd_1_5 wd_16_11 hd6_dropTrain ⟨Nat.le_of_ble_eq_true rfl, Nat.le_of_ble_eq_true rfl⟩ ⟨hc1, hs1⟩ hc6.i (hc6.c _) rfl (Nat.le_of_ble_eq_true rfl) rfl rfl dL_law_314 (fun H6 locs6 hP6 _ hk6 hS => ?_)
  have hP5 := mP_out hP5 hdis hk6
  refine lv_icmp_eq (tgt := 762) hx hb dL_law_317 (by decide) (fun _ => ?_) (fun h => absurd rfl h)
  exact kk H6 locs6 ls A1 B1 ⟨hP5, hP6, hRel, hS⟩ hl
set_option maxHeartbeats 1000000 in
set_option maxRecDepth 100000 in
theorem lk_setLoad (C : lwC p s m cd b L xs Ec Em A) (S : lwS s Ec Em A k Ac Bm H locs) (hk : k < 3000) (hl : lwL ls b Ec Em i) (hi : i + 2 < L) (hc1 : cells ≤ 600000) (hs1 : slots ≤ 7302250)
    (kk : ∀ (H1 : Heap) (locs1 : List Loc) (ls1 : Array Slot) (Ac1 Bm1 : mM), lwS s Ec Em A (k + 1) Ac1 Bm1 H1 locs1 → lwL ls1 b Ec Em i → W p l e room_1 s m #[Value.ref b] below meth cd H1 locs1 cells slots Q (F0 m 762 ls1 [])) : W p l e room_1 s m #[Value.ref b] below meth cd H locs cells slots Q (F0 m 322 ls []) := by
  obtain ⟨X, hK5, hK6, ⟨hJ5, hJ6⟩, ⟨hc5, hc6⟩, ⟨hE5, hE6⟩, hdis, -⟩ := id C
  obtain ⟨hP5, hP6, hRel, hS⟩ := S
  have hx := X.1
  have hb := X.2.1
  have hdis2 : ∀ q, mA Em q → ¬ mA Ec q := fun q h1 h2 => hdis q h2 h1
  obtain ⟨r, A1, B1, e5, e6, hRel⟩ := rel_setLoad hRel (xs (i + 1)) (xs (i + 2))
  refine lv_aload_n hx hb dL_law_322 rfl (lv_at hl 1 rfl) ?_
  refine lw_rd1 C hS hl hi dL_law_323 dL_law_324 dL_law_325 dL_law_326 dL_law_327 ?_
  refine lw_rd2 C hS hl hi dL_law_328 dL_law_329 dL_law_330 dL_law_331 dL_law_332 ?_
  refine nx_callV (As := [.int (xs (i + 1)), .int (xs (i + 2))]) (rest := []) (st1 := [.int r]) (C := RX5) (T := TX5) (N := 6) (ci := 5) (E := Ec) X hK5 hE5 hP5 hS hl.1 (c5_setLoad l Ec hJ5 hc5 (xs (i + 1)) (xs (i + 2)) Ac (r, A1) e5) wd_16_16 wd_16_17 wd_16_18 wd_1_2 wd_16_19 hd5_setLoad ⟨Nat.le_of_ble_eq_true rfl, Nat.le_of_ble_eq_true rfl⟩ ⟨hc1, hs1⟩ hc5.i (hc5.c _) rfl (Nat.le_of_ble_eq_true rfl) rfl rfl dL_law_333 (fun H5 locs5 hP5 _ hk5 hS => ?_)
  have hP6 := mP_out hP6 hdis2 hk5
  refine lv_aload_n hx hb dL_law_336 rfl (lv_at hl 2 rfl) ?_
  refine lw_rd1 C hS hl hi dL_law_337 dL_law_338 dL_law_339 dL_law_340 dL_law_341 ?_
  refine lw_rd2 C hS hl hi dL_law_342 dL_law_343 dL_law_344 dL_law_345 dL_law_346 ?_
  refine nx_callV (As := [.int (xs (i + 1)), .int (xs (i + 2))]) (rest := [.int r]) (st1 := [.int r, .int r]) (C := RX6) (T := TX6) (N := 11) (ci := 6) (E := Em) X hK6 hE6 hP6 hS hl.1 (c6_setLoad l Em hJ6 hc6 (xs (i + 1)) (xs (i + 2)) Bm (r, B1) e6) wd_16_21 wd_16_22 wd_16_23 wd_1_5 wd_17_0 hd6_setLoad ⟨Nat.le_of_ble_eq_true rfl, Nat.le_of_ble_eq_true rfl⟩ ⟨hc1, hs1⟩ hc6.i (hc6.c _) rfl (Nat.le_of_ble_eq_true rfl) rfl rfl dL_law_347 (fun H6 locs6 hP6 _ hk6 hS => ?_)
  have hP5 := mP_out hP5 hdis hk6
  refine lv_icmp_eq (tgt := 762) hx hb dL_law_350 (by decide) (fun _ => ?_) (fun h => absurd rfl h)
  exact kk H6 locs6 ls A1 B1 ⟨hP5, hP6, hRel, hS⟩ hl
set_option maxHeartbeats 1000000 in
set_option maxRecDepth 100000 in
theorem lk_run (C : lwC p s m cd b L xs Ec Em A) (S : lwS s Ec Em A k Ac Bm H locs) (hk : k < 3000) (hl : lwL ls b Ec Em i) (hi : i + 2 < L) (hc1 : cells ≤ 600000) (hs1 : slots ≤ 7302250)
    (kk : ∀ (H1 : Heap) (locs1 : List Loc) (ls1 : Array Slot) (Ac1 Bm1 : mM), lwS s Ec Em A (k + 1) Ac1 Bm1 H1 locs1 → lwL ls1 b Ec Em i → W p l e room_1 s m #[Value.ref b] below meth cd H1 locs1 cells slots Q (F0 m 762 ls1 [])) : W p l e room_1 s m #[Value.ref b] below meth cd H locs cells slots Q (F0 m 355 ls []) := by
  obtain ⟨X, hK5, hK6, ⟨hJ5, hJ6⟩, ⟨hc5, hc6⟩, ⟨hE5, hE6⟩, hdis, -⟩ := id C
  obtain ⟨hP5, hP6, hRel, hS⟩ := S
  have hx := X.1
  have hb := X.2.1
  have hdis2 : ∀ q, mA Em q → ¬ mA Ec q := fun q h1 h2 => hdis q h2 h1
  obtain ⟨r, A1, B1, e5, e6, hRel⟩ := rel_run hRel hk (xs (i + 1))
  refine lv_aload_n hx hb dL_law_355 rfl (lv_at hl 1 rfl) ?_
  refine lw_rd1 C hS hl hi dL_law_356 dL_law_357 dL_law_358 dL_law_359 dL_law_360 ?_
  refine nx_callV (As := [.int (xs (i + 1))]) (rest := []) (st1 := [.int r]) (C := RX5) (T := TX5) (N := 6) (ci := 5) (E := Ec) X hK5 hE5 hP5 hS hl.1 (c5_run l Ec hJ5 hc5 (xs (i + 1)) Ac (r, A1) e5) wd_17_1 wd_17_2 wd_17_3 wd_1_2 wd_17_4 hd5_run ⟨Nat.le_of_ble_eq_true rfl, Nat.le_of_ble_eq_true rfl⟩ ⟨hc1, hs1⟩ hc5.i (hc5.c _) rfl (Nat.le_of_ble_eq_true rfl) rfl rfl dL_law_361 (fun H5 locs5 hP5 _ hk5 hS => ?_)
  have hP6 := mP_out hP6 hdis2 hk5
  refine lv_aload_n hx hb dL_law_364 rfl (lv_at hl 2 rfl) ?_
  refine lw_rd1 C hS hl hi dL_law_365 dL_law_366 dL_law_367 dL_law_368 dL_law_369 ?_
  refine nx_callV (As := [.int (xs (i + 1))]) (rest := [.int r]) (st1 := [.int r, .int r]) (C := RX6) (T := TX6) (N := 11) (ci := 6) (E := Em) X hK6 hE6 hP6 hS hl.1 (c6_run l Em hJ6 hc6 (xs (i + 1)) Bm (r, B1) e6) wd_21_3 wd_21_4 wd_21_5 wd_1_5 wd_21_6 hd6_run ⟨Nat.le_of_ble_eq_true rfl, Nat.le_of_ble_eq_true rfl⟩ ⟨hc1, hs1⟩ hc6.i (hc6.c _) rfl (Nat.le_of_ble_eq_true rfl) rfl rfl dL_law_370 (fun H6 locs6 hP6 _ hk6 hS => ?_)
  have hP5 := mP_out hP5 hdis hk6
  refine lv_icmp_eq (tgt := 762) hx hb dL_law_373 (by decide) (fun _ => ?_) (fun h => absurd rfl h)
  exact kk H6 locs6 ls A1 B1 ⟨hP5, hP6, hRel, hS⟩ hl
set_option maxHeartbeats 1000000 in
set_option maxRecDepth 100000 in
theorem lk_undo (C : lwC p s m cd b L xs Ec Em A) (S : lwS s Ec Em A k Ac Bm H locs) (hk : k < 3000) (hl : lwL ls b Ec Em i) (hi : i + 2 < L) (hc1 : cells ≤ 600000) (hs1 : slots ≤ 7302250)
    (kk : ∀ (H1 : Heap) (locs1 : List Loc) (ls1 : Array Slot) (Ac1 Bm1 : mM), lwS s Ec Em A (k + 1) Ac1 Bm1 H1 locs1 → lwL ls1 b Ec Em i → W p l e room_1 s m #[Value.ref b] below meth cd H1 locs1 cells slots Q (F0 m 762 ls1 [])) : W p l e room_1 s m #[Value.ref b] below meth cd H locs cells slots Q (F0 m 378 ls []) := by
  obtain ⟨X, hK5, hK6, ⟨hJ5, hJ6⟩, ⟨hc5, hc6⟩, ⟨hE5, hE6⟩, hdis, -⟩ := id C
  obtain ⟨hP5, hP6, hRel, hS⟩ := S
  have hx := X.1
  have hb := X.2.1
  have hdis2 : ∀ q, mA Em q → ¬ mA Ec q := fun q h1 h2 => hdis q h2 h1
  obtain ⟨r, A1, B1, e5, e6, hRel⟩ := rel_undo hRel
  refine lv_aload_n hx hb dL_law_378 rfl (lv_at hl 1 rfl) ?_
  refine nx_callV (As := []) (rest := []) (st1 := [.int r]) (C := RX5) (T := TX5) (N := 6) (ci := 5) (E := Ec) X hK5 hE5 hP5 hS hl.1 (c5_undo l Ec hJ5 hc5 Ac (r, A1) e5) wd_23_15 wd_23_16 wd_23_17 wd_1_2 wd_23_18 hd5_undo ⟨Nat.le_of_ble_eq_true rfl, Nat.le_of_ble_eq_true rfl⟩ ⟨hc1, hs1⟩ hc5.i (hc5.c _) rfl (Nat.le_of_ble_eq_true rfl) rfl rfl dL_law_379 (fun H5 locs5 hP5 _ hk5 hS => ?_)
  have hP6 := mP_out hP6 hdis2 hk5
  refine lv_aload_n hx hb dL_law_382 rfl (lv_at hl 2 rfl) ?_
  refine nx_callV (As := []) (rest := [.int r]) (st1 := [.int r, .int r]) (C := RX6) (T := TX6) (N := 11) (ci := 6) (E := Em) X hK6 hE6 hP6 hS hl.1 (c6_undo l Em hJ6 hc6 Bm (r, B1) e6) wd_24_3 wd_24_4 wd_24_5 wd_1_5 wd_24_6 hd6_undo ⟨Nat.le_of_ble_eq_true rfl, Nat.le_of_ble_eq_true rfl⟩ ⟨hc1, hs1⟩ hc6.i (hc6.c _) rfl (Nat.le_of_ble_eq_true rfl) rfl rfl dL_law_383 (fun H6 locs6 hP6 _ hk6 hS => ?_)
  have hP5 := mP_out hP5 hdis hk6
  refine lv_icmp_eq (tgt := 762) hx hb dL_law_386 (by decide) (fun _ => ?_) (fun h => absurd rfl h)
  exact kk H6 locs6 ls A1 B1 ⟨hP5, hP6, hRel, hS⟩ hl
set_option maxHeartbeats 1000000 in
set_option maxRecDepth 100000 in
theorem lk_keep (C : lwC p s m cd b L xs Ec Em A) (S : lwS s Ec Em A k Ac Bm H locs) (hk : k < 3000) (hl : lwL ls b Ec Em i) (hi : i + 2 < L) (hc1 : cells ≤ 600000) (hs1 : slots ≤ 7302250)
    (kk : ∀ (H1 : Heap) (locs1 : List Loc) (ls1 : Array Slot) (Ac1 Bm1 : mM), lwS s Ec Em A (k + 1) Ac1 Bm1 H1 locs1 → lwL ls1 b Ec Em i → W p l e room_1 s m #[Value.ref b] below meth cd H1 locs1 cells slots Q (F0 m 762 ls1 [])) : W p l e room_1 s m #[Value.ref b] below meth cd H locs cells slots Q (F0 m 391 ls []) := by
  obtain ⟨X, hK5, hK6, ⟨hJ5, hJ6⟩, ⟨hc5, hc6⟩, ⟨hE5, hE6⟩, hdis, -⟩ := id C
  obtain ⟨hP5, hP6, hRel, hS⟩ := S
  have hx := X.1
  have hb := X.2.1
  have hdis2 : ∀ q, mA Em q → ¬ mA Ec q := fun q h1 h2 => hdis q h2 h1
  obtain ⟨r, A1, B1, e5, e6, hRel⟩ := rel_keep hRel (xs (i + 1))
  refine lv_aload_n hx hb dL_law_391 rfl (lv_at hl 1 rfl) ?_
  refine lw_rd1 C hS hl hi dL_law_392 dL_law_393 dL_law_394 dL_law_395 dL_law_396 ?_
  refine nx_callV (As := [.int (xs (i + 1))]) (rest := []) (st1 := [.int r]) (C := RX5) (T := TX5) (N := 6) (ci := 5) (E := Ec) X hK5 hE5 hP5 hS hl.1 (c5_keep l Ec hJ5 hc5 (xs (i + 1)) Ac (r, A1) e5) wd_24_7 wd_24_8 wd_24_9 wd_1_2 wd_24_10 hd5_keep ⟨Nat.le_of_ble_eq_true rfl, Nat.le_of_ble_eq_true rfl⟩ ⟨hc1, hs1⟩ hc5.i (hc5.c _) rfl (Nat.le_of_ble_eq_true rfl) rfl rfl dL_law_397 (fun H5 locs5 hP5 _ hk5 hS => ?_)
  have hP6 := mP_out hP6 hdis2 hk5
  refine lv_aload_n hx hb dL_law_400 rfl (lv_at hl 2 rfl) ?_
  refine lw_rd1 C hS hl hi dL_law_401 dL_law_402 dL_law_403 dL_law_404 dL_law_405 ?_
  refine nx_callV (As := [.int (xs (i + 1))]) (rest := [.int r]) (st1 := [.int r, .int r]) (C := RX6) (T := TX6) (N := 11) (ci := 6) (E := Em) X hK6 hE6 hP6 hS hl.1 (c6_keep l Em hJ6 hc6 (xs (i + 1)) Bm (r, B1) e6) wd_24_17 wd_24_18 wd_24_19 wd_1_5 wd_24_20 hd6_keep ⟨Nat.le_of_ble_eq_true rfl, Nat.le_of_ble_eq_true rfl⟩ ⟨hc1, hs1⟩ hc6.i (hc6.c _) rfl (Nat.le_of_ble_eq_true rfl) rfl rfl dL_law_406 (fun H6 locs6 hP6 _ hk6 hS => ?_)
  have hP5 := mP_out hP5 hdis hk6
  refine lv_icmp_eq (tgt := 762) hx hb dL_law_409 (by decide) (fun _ => ?_) (fun h => absurd rfl h)
  exact kk H6 locs6 ls A1 B1 ⟨hP5, hP6, hRel, hS⟩ hl
set_option maxHeartbeats 1000000 in
set_option maxRecDepth 100000 in
theorem lk_back (C : lwC p s m cd b L xs Ec Em A) (S : lwS s Ec Em A k Ac Bm H locs) (hk : k < 3000) (hl : lwL ls b Ec Em i) (hi : i + 2 < L) (hc1 : cells ≤ 600000) (hs1 : slots ≤ 7302250)
    (kk : ∀ (H1 : Heap) (locs1 : List Loc) (ls1 : Array Slot) (Ac1 Bm1 : mM), lwS s Ec Em A (k + 1) Ac1 Bm1 H1 locs1 → lwL ls1 b Ec Em i → W p l e room_1 s m #[Value.ref b] below meth cd H1 locs1 cells slots Q (F0 m 762 ls1 [])) : W p l e room_1 s m #[Value.ref b] below meth cd H locs cells slots Q (F0 m 414 ls []) := by
  obtain ⟨X, hK5, hK6, ⟨hJ5, hJ6⟩, ⟨hc5, hc6⟩, ⟨hE5, hE6⟩, hdis, -⟩ := id C
  obtain ⟨hP5, hP6, hRel, hS⟩ := S
  have hx := X.1
  have hb := X.2.1
  have hdis2 : ∀ q, mA Em q → ¬ mA Ec q := fun q h1 h2 => hdis q h2 h1
  obtain ⟨r, A1, B1, e5, e6, hRel⟩ := rel_back hRel (xs (i + 1))
  refine lv_aload_n hx hb dL_law_414 rfl (lv_at hl 1 rfl) ?_
  refine lw_rd1 C hS hl hi dL_law_415 dL_law_416 dL_law_417 dL_law_418 dL_law_419 ?_
  refine nx_callV (As := [.int (xs (i + 1))]) (rest := []) (st1 := [.int r]) (C := RX5) (T := TX5) (N := 6) (ci := 5) (E := Ec) X hK5 hE5 hP5 hS hl.1 (c5_back l Ec hJ5 hc5 (xs (i + 1)) Ac (r, A1) e5) wd_24_22 wd_24_23 wd_25_0 wd_1_2 wd_25_1 hd5_back ⟨Nat.le_of_ble_eq_true rfl, Nat.le_of_ble_eq_true rfl⟩ ⟨hc1, hs1⟩ hc5.i (hc5.c _) rfl (Nat.le_of_ble_eq_true rfl) rfl rfl dL_law_420 (fun H5 locs5 hP5 _ hk5 hS => ?_)
  have hP6 := mP_out hP6 hdis2 hk5
  refine lv_aload_n hx hb dL_law_423 rfl (lv_at hl 2 rfl) ?_
  refine lw_rd1 C hS hl hi dL_law_424 dL_law_425 dL_law_426 dL_law_427 dL_law_428 ?_
  refine nx_callV (As := [.int (xs (i + 1))]) (rest := [.int r]) (st1 := [.int r, .int r]) (C := RX6) (T := TX6) (N := 11) (ci := 6) (E := Em) X hK6 hE6 hP6 hS hl.1 (c6_back l Em hJ6 hc6 (xs (i + 1)) Bm (r, B1) e6) wd_25_2 wd_25_3 wd_25_4 wd_1_5 wd_25_5 hd6_back ⟨Nat.le_of_ble_eq_true rfl, Nat.le_of_ble_eq_true rfl⟩ ⟨hc1, hs1⟩ hc6.i (hc6.c _) rfl (Nat.le_of_ble_eq_true rfl) rfl rfl dL_law_429 (fun H6 locs6 hP6 _ hk6 hS => ?_)
  have hP5 := mP_out hP5 hdis hk6
  refine lv_icmp_eq (tgt := 762) hx hb dL_law_432 (by decide) (fun _ => ?_) (fun h => absurd rfl h)
  exact kk H6 locs6 ls A1 B1 ⟨hP5, hP6, hRel, hS⟩ hl
set_option maxHeartbeats 1000000 in
set_option maxRecDepth 100000 in
theorem lk_segment (C : lwC p s m cd b L xs Ec Em A) (S : lwS s Ec Em A k Ac Bm H locs) (hk : k < 3000) (hl : lwL ls b Ec Em i) (hi : i + 2 < L) (hc1 : cells ≤ 600000) (hs1 : slots ≤ 7302250)
    (kk : ∀ (H1 : Heap) (locs1 : List Loc) (ls1 : Array Slot) (Ac1 Bm1 : mM), lwS s Ec Em A (k + 1) Ac1 Bm1 H1 locs1 → lwL ls1 b Ec Em i → W p l e room_1 s m #[Value.ref b] below meth cd H1 locs1 cells slots Q (F0 m 762 ls1 [])) : W p l e room_1 s m #[Value.ref b] below meth cd H locs cells slots Q (F0 m 437 ls []) := by
  obtain ⟨X, hK5, hK6, ⟨hJ5, hJ6⟩, ⟨hc5, hc6⟩, ⟨hE5, hE6⟩, hdis, -⟩ := id C
  obtain ⟨hP5, hP6, hRel, hS⟩ := S
  have hx := X.1
  have hb := X.2.1
  have hdis2 : ∀ q, mA Em q → ¬ mA Ec q := fun q h1 h2 => hdis q h2 h1
  obtain ⟨r, e5, e6⟩ := st_segment hRel (xs (i + 1)) (xs (i + 2))
  refine lv_aload_n hx hb dL_law_437 rfl (lv_at hl 1 rfl) ?_
  refine lw_rd1 C hS hl hi dL_law_438 dL_law_439 dL_law_440 dL_law_441 dL_law_442 ?_
  refine lw_rd2 C hS hl hi dL_law_443 dL_law_444 dL_law_445 dL_law_446 dL_law_447 ?_
  refine nx_callV (As := [.int (xs (i + 1)), .int (xs (i + 2))]) (rest := []) (st1 := [.int r]) (C := RX5) (T := TX5) (N := 6) (ci := 5) (E := Ec) X hK5 hE5 hP5 hS hl.1 (c5_segment l Ec hJ5 hc5 (xs (i + 1)) (xs (i + 2)) Ac r e5) wd_25_6 wd_25_7 wd_25_8 wd_1_2 wd_25_9 hd5_segment ⟨Nat.le_of_ble_eq_true rfl, Nat.le_of_ble_eq_true rfl⟩ ⟨hc1, hs1⟩ hc5.i (hc5.c _) rfl (Nat.le_of_ble_eq_true rfl) rfl rfl dL_law_448 (fun H5 locs5 hP5 _ hk5 hS => ?_)
  have hP6 := mP_out hP6 hdis2 hk5
  refine lv_aload_n hx hb dL_law_451 rfl (lv_at hl 2 rfl) ?_
  refine lw_rd1 C hS hl hi dL_law_452 dL_law_453 dL_law_454 dL_law_455 dL_law_456 ?_
  refine lw_rd2 C hS hl hi dL_law_457 dL_law_458 dL_law_459 dL_law_460 dL_law_461 ?_
  refine nx_callV (As := [.int (xs (i + 1)), .int (xs (i + 2))]) (rest := [.int r]) (st1 := [.int r, .int r]) (C := RX6) (T := TX6) (N := 11) (ci := 6) (E := Em) X hK6 hE6 hP6 hS hl.1 (c6_segment l Em hJ6 hc6 (xs (i + 1)) (xs (i + 2)) Bm r e6) wd_26_0 wd_26_1 wd_26_2 wd_1_5 wd_26_3 hd6_segment ⟨Nat.le_of_ble_eq_true rfl, Nat.le_of_ble_eq_true rfl⟩ ⟨hc1, hs1⟩ hc6.i (hc6.c _) rfl (Nat.le_of_ble_eq_true rfl) rfl rfl dL_law_462 (fun H6 locs6 hP6 _ hk6 hS => ?_)
  have hP5 := mP_out hP5 hdis hk6
  refine lv_icmp_eq (tgt := 762) hx hb dL_law_465 (by decide) (fun _ => ?_) (fun h => absurd rfl h)
  exact kk H6 locs6 ls Ac Bm ⟨hP5, hP6, (hRel.mono (Nat.le_succ _)), hS⟩ hl
set_option maxHeartbeats 1000000 in
set_option maxRecDepth 100000 in
theorem lk_train (C : lwC p s m cd b L xs Ec Em A) (S : lwS s Ec Em A k Ac Bm H locs) (hk : k < 3000) (hl : lwL ls b Ec Em i) (hi : i + 2 < L) (hc1 : cells ≤ 600000) (hs1 : slots ≤ 7302250)
    (kk : ∀ (H1 : Heap) (locs1 : List Loc) (ls1 : Array Slot) (Ac1 Bm1 : mM), lwS s Ec Em A (k + 1) Ac1 Bm1 H1 locs1 → lwL ls1 b Ec Em i → W p l e room_1 s m #[Value.ref b] below meth cd H1 locs1 cells slots Q (F0 m 762 ls1 [])) : W p l e room_1 s m #[Value.ref b] below meth cd H locs cells slots Q (F0 m 470 ls []) := by
  obtain ⟨X, hK5, hK6, ⟨hJ5, hJ6⟩, ⟨hc5, hc6⟩, ⟨hE5, hE6⟩, hdis, -⟩ := id C
  obtain ⟨hP5, hP6, hRel, hS⟩ := S
  have hx := X.1
  have hb := X.2.1
  have hdis2 : ∀ q, mA Em q → ¬ mA Ec q := fun q h1 h2 => hdis q h2 h1
  obtain ⟨r, e5, e6⟩ := st_train hRel (xs (i + 1)) (xs (i + 2))
  refine lv_aload_n hx hb dL_law_470 rfl (lv_at hl 1 rfl) ?_
  refine lw_rd1 C hS hl hi dL_law_471 dL_law_472 dL_law_473 dL_law_474 dL_law_475 ?_
  refine lw_rd2 C hS hl hi dL_law_476 dL_law_477 dL_law_478 dL_law_479 dL_law_480 ?_
  refine nx_callV (As := [.int (xs (i + 1)), .int (xs (i + 2))]) (rest := []) (st1 := [.int r]) (C := RX5) (T := TX5) (N := 6) (ci := 5) (E := Ec) X hK5 hE5 hP5 hS hl.1 (c5_train l Ec hJ5 hc5 (xs (i + 1)) (xs (i + 2)) Ac r e5) wd_26_16 wd_26_17 wd_26_18 wd_1_2 wd_26_19 hd5_train ⟨Nat.le_of_ble_eq_true rfl, Nat.le_of_ble_eq_true rfl⟩ ⟨hc1, hs1⟩ hc5.i (hc5.c _) rfl (Nat.le_of_ble_eq_true rfl) rfl rfl dL_law_481 (fun H5 locs5 hP5 _ hk5 hS => ?_)
  have hP6 := mP_out hP6 hdis2 hk5
  refine lv_aload_n hx hb dL_law_484 rfl (lv_at hl 2 rfl) ?_
  refine lw_rd1 C hS hl hi dL_law_485 dL_law_486 dL_law_487 dL_law_488 dL_law_489 ?_
  refine lw_rd2 C hS hl hi dL_law_490 dL_law_491 dL_law_492 dL_law_493 dL_law_494 ?_
  refine nx_callV (As := [.int (xs (i + 1)), .int (xs (i + 2))]) (rest := [.int r]) (st1 := [.int r, .int r]) (C := RX6) (T := TX6) (N := 11) (ci := 6) (E := Em) X hK6 hE6 hP6 hS hl.1 (c6_train l Em hJ6 hc6 (xs (i + 1)) (xs (i + 2)) Bm r e6) wd_27_4 wd_27_5 wd_27_6 wd_1_5 wd_27_7 hd6_train ⟨Nat.le_of_ble_eq_true rfl, Nat.le_of_ble_eq_true rfl⟩ ⟨hc1, hs1⟩ hc6.i (hc6.c _) rfl (Nat.le_of_ble_eq_true rfl) rfl rfl dL_law_495 (fun H6 locs6 hP6 _ hk6 hS => ?_)
  have hP5 := mP_out hP5 hdis hk6
  refine lv_icmp_eq (tgt := 762) hx hb dL_law_498 (by decide) (fun _ => ?_) (fun h => absurd rfl h)
  exact kk H6 locs6 ls Ac Bm ⟨hP5, hP6, (hRel.mono (Nat.le_succ _)), hS⟩ hl
set_option maxHeartbeats 1000000 in
set_option maxRecDepth 100000 in
theorem lk_why (C : lwC p s m cd b L xs Ec Em A) (S : lwS s Ec Em A k Ac Bm H locs) (hk : k < 3000) (hl : lwL ls b Ec Em i) (hi : i + 2 < L) (hc1 : cells ≤ 600000) (hs1 : slots ≤ 7302250)
    (kk : ∀ (H1 : Heap) (locs1 : List Loc) (ls1 : Array Slot) (Ac1 Bm1 : mM), lwS s Ec Em A (k + 1) Ac1 Bm1 H1 locs1 → lwL ls1 b Ec Em i → W p l e room_1 s m #[Value.ref b] below meth cd H1 locs1 cells slots Q (F0 m 762 ls1 [])) : W p l e room_1 s m #[Value.ref b] below meth cd H locs cells slots Q (F0 m 503 ls []) := by
  obtain ⟨X, hK5, hK6, ⟨hJ5, hJ6⟩, ⟨hc5, hc6⟩, ⟨hE5, hE6⟩, hdis, -⟩ := id C
  obtain ⟨hP5, hP6, hRel, hS⟩ := S
  have hx := X.1
  have hb := X.2.1
  have hdis2 : ∀ q, mA Em q → ¬ mA Ec q := fun q h1 h2 => hdis q h2 h1
  obtain ⟨r, e5, e6⟩ := st_why hRel (xs (i + 1))
  refine lv_aload_n hx hb dL_law_503 rfl (lv_at hl 1 rfl) ?_
  refine lw_rd1 C hS hl hi dL_law_504 dL_law_505 dL_law_506 dL_law_507 dL_law_508 ?_
  refine nx_callV (As := [.int (xs (i + 1))]) (rest := []) (st1 := [.int r]) (C := RX5) (T := TX5) (N := 6) (ci := 5) (E := Ec) X hK5 hE5 hP5 hS hl.1 (c5_why l Ec hJ5 hc5 (xs (i + 1)) Ac r e5) wd_27_12 wd_27_13 wd_27_14 wd_1_2 wd_27_15 hd5_why ⟨Nat.le_of_ble_eq_true rfl, Nat.le_of_ble_eq_true rfl⟩ ⟨hc1, hs1⟩ hc5.i (hc5.c _) rfl (Nat.le_of_ble_eq_true rfl) rfl rfl dL_law_509 (fun H5 locs5 hP5 _ hk5 hS => ?_)
  have hP6 := mP_out hP6 hdis2 hk5
  refine lv_aload_n hx hb dL_law_512 rfl (lv_at hl 2 rfl) ?_
  refine lw_rd1 C hS hl hi dL_law_513 dL_law_514 dL_law_515 dL_law_516 dL_law_517 ?_
  refine nx_callV (As := [.int (xs (i + 1))]) (rest := [.int r]) (st1 := [.int r, .int r]) (C := RX6) (T := TX6) (N := 11) (ci := 6) (E := Em) X hK6 hE6 hP6 hS hl.1 (c6_why l Em hJ6 hc6 (xs (i + 1)) Bm r e6) wd_27_17 wd_27_18 wd_27_19 wd_1_5 wd_27_20 hd6_why ⟨Nat.le_of_ble_eq_true rfl, Nat.le_of_ble_eq_true rfl⟩ ⟨hc1, hs1⟩ hc6.i (hc6.c _) rfl (Nat.le_of_ble_eq_true rfl) rfl rfl dL_law_518 (fun H6 locs6 hP6 _ hk6 hS => ?_)
  have hP5 := mP_out hP5 hdis hk6
  refine lv_icmp_eq (tgt := 762) hx hb dL_law_521 (by decide) (fun _ => ?_) (fun h => absurd rfl h)
  exact kk H6 locs6 ls Ac Bm ⟨hP5, hP6, (hRel.mono (Nat.le_succ _)), hS⟩ hl
set_option maxHeartbeats 1000000 in
set_option maxRecDepth 100000 in
theorem lk_account (C : lwC p s m cd b L xs Ec Em A) (S : lwS s Ec Em A k Ac Bm H locs) (hk : k < 3000) (hl : lwL ls b Ec Em i) (hi : i + 2 < L) (hc1 : cells ≤ 600000) (hs1 : slots ≤ 7302250)
    (kk : ∀ (H1 : Heap) (locs1 : List Loc) (ls1 : Array Slot) (Ac1 Bm1 : mM), lwS s Ec Em A (k + 1) Ac1 Bm1 H1 locs1 → lwL ls1 b Ec Em i → W p l e room_1 s m #[Value.ref b] below meth cd H1 locs1 cells slots Q (F0 m 762 ls1 [])) : W p l e room_1 s m #[Value.ref b] below meth cd H locs cells slots Q (F0 m 526 ls []) := by
  obtain ⟨X, hK5, hK6, ⟨hJ5, hJ6⟩, ⟨hc5, hc6⟩, ⟨hE5, hE6⟩, hdis, -⟩ := id C
  obtain ⟨hP5, hP6, hRel, hS⟩ := S
  have hx := X.1
  have hb := X.2.1
  have hdis2 : ∀ q, mA Em q → ¬ mA Ec q := fun q h1 h2 => hdis q h2 h1
  obtain ⟨r, e5, e6⟩ := st_account hRel (xs (i + 1))
  refine lv_aload_n hx hb dL_law_526 rfl (lv_at hl 1 rfl) ?_
  refine lw_rd1 C hS hl hi dL_law_527 dL_law_528 dL_law_529 dL_law_530 dL_law_531 ?_
  refine nx_callV (As := [.int (xs (i + 1))]) (rest := []) (st1 := [.int r]) (C := RX5) (T := TX5) (N := 6) (ci := 5) (E := Ec) X hK5 hE5 hP5 hS hl.1 (c5_account l Ec hJ5 hc5 (xs (i + 1)) Ac r e5) wd_27_21 wd_27_22 wd_27_23 wd_1_2 wd_28_0 hd5_account ⟨Nat.le_of_ble_eq_true rfl, Nat.le_of_ble_eq_true rfl⟩ ⟨hc1, hs1⟩ hc5.i (hc5.c _) rfl (Nat.le_of_ble_eq_true rfl) rfl rfl dL_law_532 (fun H5 locs5 hP5 _ hk5 hS => ?_)
  have hP6 := mP_out hP6 hdis2 hk5
  refine lv_aload_n hx hb dL_law_535 rfl (lv_at hl 2 rfl) ?_
  refine lw_rd1 C hS hl hi dL_law_536 dL_law_537 dL_law_538 dL_law_539 dL_law_540 ?_
  refine nx_callV (As := [.int (xs (i + 1))]) (rest := [.int r]) (st1 := [.int r, .int r]) (C := RX6) (T := TX6) (N := 11) (ci := 6) (E := Em) X hK6 hE6 hP6 hS hl.1 (c6_account l Em hJ6 hc6 (xs (i + 1)) Bm r e6) wd_28_4 wd_28_5 wd_28_6 wd_1_5 wd_28_7 hd6_account ⟨Nat.le_of_ble_eq_true rfl, Nat.le_of_ble_eq_true rfl⟩ ⟨hc1, hs1⟩ hc6.i (hc6.c _) rfl (Nat.le_of_ble_eq_true rfl) rfl rfl dL_law_541 (fun H6 locs6 hP6 _ hk6 hS => ?_)
  have hP5 := mP_out hP5 hdis hk6
  refine lv_icmp_eq (tgt := 762) hx hb dL_law_544 (by decide) (fun _ => ?_) (fun h => absurd rfl h)
  exact kk H6 locs6 ls Ac Bm ⟨hP5, hP6, (hRel.mono (Nat.le_succ _)), hS⟩ hl
set_option maxHeartbeats 1000000 in
set_option maxRecDepth 100000 in
theorem lk_count (C : lwC p s m cd b L xs Ec Em A) (S : lwS s Ec Em A k Ac Bm H locs) (hk : k < 3000) (hl : lwL ls b Ec Em i) (hi : i + 2 < L) (hc1 : cells ≤ 600000) (hs1 : slots ≤ 7302250)
    (kk : ∀ (H1 : Heap) (locs1 : List Loc) (ls1 : Array Slot) (Ac1 Bm1 : mM), lwS s Ec Em A (k + 1) Ac1 Bm1 H1 locs1 → lwL ls1 b Ec Em i → W p l e room_1 s m #[Value.ref b] below meth cd H1 locs1 cells slots Q (F0 m 762 ls1 [])) : W p l e room_1 s m #[Value.ref b] below meth cd H locs cells slots Q (F0 m 549 ls []) := by
  obtain ⟨X, hK5, hK6, ⟨hJ5, hJ6⟩, ⟨hc5, hc6⟩, ⟨hE5, hE6⟩, hdis, -⟩ := id C
  obtain ⟨hP5, hP6, hRel, hS⟩ := S
  have hx := X.1
  have hb := X.2.1
  have hdis2 : ∀ q, mA Em q → ¬ mA Ec q := fun q h1 h2 => hdis q h2 h1
  obtain ⟨r, e5, e6⟩ := st_count hRel (xs (i + 1))
  refine lv_aload_n hx hb dL_law_549 rfl (lv_at hl 1 rfl) ?_
  refine lw_rd1 C hS hl hi dL_law_550 dL_law_551 dL_law_552 dL_law_553 dL_law_554 ?_
  refine nx_callV (As := [.int (xs (i + 1))]) (rest := []) (st1 := [.int r]) (C := RX5) (T := TX5) (N := 6) (ci := 5) (E := Ec) X hK5 hE5 hP5 hS hl.1 (c5_count l Ec hJ5 hc5 (xs (i + 1)) Ac r e5) wd_28_12 wd_28_13 wd_28_14 wd_1_2 wd_28_15 hd5_count ⟨Nat.le_of_ble_eq_true rfl, Nat.le_of_ble_eq_true rfl⟩ ⟨hc1, hs1⟩ hc5.i (hc5.c _) rfl (Nat.le_of_ble_eq_true rfl) rfl rfl dL_law_555 (fun H5 locs5 hP5 _ hk5 hS => ?_)
  have hP6 := mP_out hP6 hdis2 hk5
  refine lv_aload_n hx hb dL_law_558 rfl (lv_at hl 2 rfl) ?_
  refine lw_rd1 C hS hl hi dL_law_559 dL_law_560 dL_law_561 dL_law_562 dL_law_563 ?_
  refine nx_callV (As := [.int (xs (i + 1))]) (rest := [.int r]) (st1 := [.int r, .int r]) (C := RX6) (T := TX6) (N := 11) (ci := 6) (E := Em) X hK6 hE6 hP6 hS hl.1 (c6_count l Em hJ6 hc6 (xs (i + 1)) Bm r e6) wd_29_4 wd_29_5 wd_29_6 wd_1_5 wd_29_7 hd6_count ⟨Nat.le_of_ble_eq_true rfl, Nat.le_of_ble_eq_true rfl⟩ ⟨hc1, hs1⟩ hc6.i (hc6.c _) rfl (Nat.le_of_ble_eq_true rfl) rfl rfl dL_law_564 (fun H6 locs6 hP6 _ hk6 hS => ?_)
  have hP5 := mP_out hP5 hdis hk6
  refine lv_icmp_eq (tgt := 762) hx hb dL_law_567 (by decide) (fun _ => ?_) (fun h => absurd rfl h)
  exact kk H6 locs6 ls Ac Bm ⟨hP5, hP6, (hRel.mono (Nat.le_succ _)), hS⟩ hl
set_option maxHeartbeats 1000000 in
set_option maxRecDepth 100000 in
theorem lk_setting (C : lwC p s m cd b L xs Ec Em A) (S : lwS s Ec Em A k Ac Bm H locs) (hk : k < 3000) (hl : lwL ls b Ec Em i) (hi : i + 2 < L) (hc1 : cells ≤ 600000) (hs1 : slots ≤ 7302250)
    (kk : ∀ (H1 : Heap) (locs1 : List Loc) (ls1 : Array Slot) (Ac1 Bm1 : mM), lwS s Ec Em A (k + 1) Ac1 Bm1 H1 locs1 → lwL ls1 b Ec Em i → W p l e room_1 s m #[Value.ref b] below meth cd H1 locs1 cells slots Q (F0 m 762 ls1 [])) : W p l e room_1 s m #[Value.ref b] below meth cd H locs cells slots Q (F0 m 572 ls []) := by
  obtain ⟨X, hK5, hK6, ⟨hJ5, hJ6⟩, ⟨hc5, hc6⟩, ⟨hE5, hE6⟩, hdis, -⟩ := id C
  obtain ⟨hP5, hP6, hRel, hS⟩ := S
  have hx := X.1
  have hb := X.2.1
  have hdis2 : ∀ q, mA Em q → ¬ mA Ec q := fun q h1 h2 => hdis q h2 h1
  obtain ⟨r, e5, e6⟩ := st_setting hRel (xs (i + 1))
  refine lv_aload_n hx hb dL_law_572 rfl (lv_at hl 1 rfl) ?_
  refine lw_rd1 C hS hl hi dL_law_573 dL_law_574 dL_law_575 dL_law_576 dL_law_577 ?_
  refine nx_callV (As := [.int (xs (i + 1))]) (rest := []) (st1 := [.int r]) (C := RX5) (T := TX5) (N := 6) (ci := 5) (E := Ec) X hK5 hE5 hP5 hS hl.1 (c5_setting l Ec hJ5 hc5 (xs (i + 1)) Ac r e5) wd_30_0 wd_30_1 wd_30_2 wd_1_2 wd_30_3 hd5_setting ⟨Nat.le_of_ble_eq_true rfl, Nat.le_of_ble_eq_true rfl⟩ ⟨hc1, hs1⟩ hc5.i (hc5.c _) rfl (Nat.le_of_ble_eq_true rfl) rfl rfl dL_law_578 (fun H5 locs5 hP5 _ hk5 hS => ?_)
  have hP6 := mP_out hP6 hdis2 hk5
  refine lv_aload_n hx hb dL_law_581 rfl (lv_at hl 2 rfl) ?_
  refine lw_rd1 C hS hl hi dL_law_582 dL_law_583 dL_law_584 dL_law_585 dL_law_586 ?_
  refine nx_callV (As := [.int (xs (i + 1))]) (rest := [.int r]) (st1 := [.int r, .int r]) (C := RX6) (T := TX6) (N := 11) (ci := 6) (E := Em) X hK6 hE6 hP6 hS hl.1 (c6_setting l Em hJ6 hc6 (xs (i + 1)) Bm r e6) wd_30_4 wd_30_5 wd_30_6 wd_1_5 wd_30_7 hd6_setting ⟨Nat.le_of_ble_eq_true rfl, Nat.le_of_ble_eq_true rfl⟩ ⟨hc1, hs1⟩ hc6.i (hc6.c _) rfl (Nat.le_of_ble_eq_true rfl) rfl rfl dL_law_587 (fun H6 locs6 hP6 _ hk6 hS => ?_)
  have hP5 := mP_out hP5 hdis hk6
  refine lv_icmp_eq (tgt := 762) hx hb dL_law_590 (by decide) (fun _ => ?_) (fun h => absurd rfl h)
  exact kk H6 locs6 ls Ac Bm ⟨hP5, hP6, (hRel.mono (Nat.le_succ _)), hS⟩ hl
set_option maxHeartbeats 1000000 in
set_option maxRecDepth 100000 in
theorem lk_ifRun (C : lwC p s m cd b L xs Ec Em A) (S : lwS s Ec Em A k Ac Bm H locs) (hk : k < 3000) (hl : lwL ls b Ec Em i) (hi : i + 2 < L) (hc1 : cells ≤ 600000) (hs1 : slots ≤ 7302250)
    (kk : ∀ (H1 : Heap) (locs1 : List Loc) (ls1 : Array Slot) (Ac1 Bm1 : mM), lwS s Ec Em A (k + 1) Ac1 Bm1 H1 locs1 → lwL ls1 b Ec Em i → W p l e room_1 s m #[Value.ref b] below meth cd H1 locs1 cells slots Q (F0 m 762 ls1 [])) : W p l e room_1 s m #[Value.ref b] below meth cd H locs cells slots Q (F0 m 595 ls []) := by
  obtain ⟨X, hK5, hK6, ⟨hJ5, hJ6⟩, ⟨hc5, hc6⟩, ⟨hE5, hE6⟩, hdis, -⟩ := id C
  obtain ⟨hP5, hP6, hRel, hS⟩ := S
  have hx := X.1
  have hb := X.2.1
  have hdis2 : ∀ q, mA Em q → ¬ mA Ec q := fun q h1 h2 => hdis q h2 h1
  obtain ⟨r, A1, B1, e5, e6, hRel⟩ := rel_ifRun hRel (xs (i + 1)) (xs (i + 2))
  refine lv_aload_n hx hb dL_law_595 rfl (lv_at hl 1 rfl) ?_
  refine lw_rd1 C hS hl hi dL_law_596 dL_law_597 dL_law_598 dL_law_599 dL_law_600 ?_
  refine lw_rd2 C hS hl hi dL_law_601 dL_law_602 dL_law_603 dL_law_604 dL_law_605 ?_
  refine nx_callV (As := [.int (xs (i + 1)), .int (xs (i + 2))]) (rest := []) (st1 := [.int r]) (C := RX5) (T := TX5) (N := 6) (ci := 5) (E := Ec) X hK5 hE5 hP5 hS hl.1 (c5_ifRun l Ec hJ5 hc5 (xs (i + 1)) (xs (i + 2)) Ac (r, A1) e5) wd_30_8 wd_30_9 wd_30_10 wd_1_2 wd_30_11 hd5_ifRun ⟨Nat.le_of_ble_eq_true rfl, Nat.le_of_ble_eq_true rfl⟩ ⟨hc1, hs1⟩ hc5.i (hc5.c _) rfl (Nat.le_of_ble_eq_true rfl) rfl rfl dL_law_606 (fun H5 locs5 hP5 _ hk5 hS => ?_)
  have hP6 := mP_out hP6 hdis2 hk5
  refine lv_aload_n hx hb dL_law_609 rfl (lv_at hl 2 rfl) ?_
  refine lw_rd1 C hS hl hi dL_law_610 dL_law_611 dL_law_612 dL_law_613 dL_law_614 ?_
  refine lw_rd2 C hS hl hi dL_law_615 dL_law_616 dL_law_617 dL_law_618 dL_law_619 ?_
  refine nx_callV (As := [.int (xs (i + 1)), .int (xs (i + 2))]) (rest := [.int r]) (st1 := [.int r, .int r]) (C := RX6) (T := TX6) (N := 11) (ci := 6) (E := Em) X hK6 hE6 hP6 hS hl.1 (c6_ifRun l Em hJ6 hc6 (xs (i + 1)) (xs (i + 2)) Bm (r, B1) e6) wd_30_17 wd_30_18 wd_30_19 wd_1_5 wd_30_20 hd6_ifRun ⟨Nat.le_of_ble_eq_true rfl, Nat.le_of_ble_eq_true rfl⟩ ⟨hc1, hs1⟩ hc6.i (hc6.c _) rfl (Nat.le_of_ble_eq_true rfl) rfl rfl dL_law_620 (fun H6 locs6 hP6 _ hk6 hS => ?_)
  have hP5 := mP_out hP5 hdis hk6
  refine lv_icmp_eq (tgt := 762) hx hb dL_law_623 (by decide) (fun _ => ?_) (fun h => absurd rfl h)
  exact kk H6 locs6 ls A1 B1 ⟨hP5, hP6, hRel, hS⟩ hl
set_option maxHeartbeats 1000000 in
set_option maxRecDepth 100000 in
theorem lk_ticksFor (C : lwC p s m cd b L xs Ec Em A) (S : lwS s Ec Em A k Ac Bm H locs) (hk : k < 3000) (hl : lwL ls b Ec Em i) (hi : i + 2 < L) (hc1 : cells ≤ 600000) (hs1 : slots ≤ 7302250)
    (kk : ∀ (H1 : Heap) (locs1 : List Loc) (ls1 : Array Slot) (Ac1 Bm1 : mM), lwS s Ec Em A (k + 1) Ac1 Bm1 H1 locs1 → lwL ls1 b Ec Em i → W p l e room_1 s m #[Value.ref b] below meth cd H1 locs1 cells slots Q (F0 m 762 ls1 [])) : W p l e room_1 s m #[Value.ref b] below meth cd H locs cells slots Q (F0 m 628 ls []) := by
  obtain ⟨X, hK5, hK6, ⟨hJ5, hJ6⟩, ⟨hc5, hc6⟩, ⟨hE5, hE6⟩, hdis, -⟩ := id C
  obtain ⟨hP5, hP6, hRel, hS⟩ := S
  have hx := X.1
  have hb := X.2.1
  have hdis2 : ∀ q, mA Em q → ¬ mA Ec q := fun q h1 h2 => hdis q h2 h1
  obtain ⟨r, A1, B1, e5, e6, hRel⟩ := rel_ticksFor hRel hk (xs (i + 1))
  refine lv_aload_n hx hb dL_law_628 rfl (lv_at hl 1 rfl) ?_
  refine lw_rd1 C hS hl hi dL_law_629 dL_law_630 dL_law_631 dL_law_632 dL_law_633 ?_
  refine nx_callV (As := [.int (xs (i + 1))]) (rest := []) (st1 := [.int r]) (C := RX5) (T := TX5) (N := 6) (ci := 5) (E := Ec) X hK5 hE5 hP5 hS hl.1 (c5_ticksFor l Ec hJ5 hc5 (xs (i + 1)) Ac (r, A1) e5) wd_31_1 wd_31_2 wd_31_3 wd_1_2 wd_31_4 hd5_ticksFor ⟨Nat.le_of_ble_eq_true rfl, Nat.le_of_ble_eq_true rfl⟩ ⟨hc1, hs1⟩ hc5.i (hc5.c _) rfl (Nat.le_of_ble_eq_true rfl) rfl rfl dL_law_634 (fun H5 locs5 hP5 _ hk5 hS => ?_)
  have hP6 := mP_out hP6 hdis2 hk5
  refine lv_aload_n hx hb dL_law_637 rfl (lv_at hl 2 rfl) ?_
  refine lw_rd1 C hS hl hi dL_law_638 dL_law_639 dL_law_640 dL_law_641 dL_law_642 ?_
  refine nx_callV (As := [.int (xs (i + 1))]) (rest := [.int r]) (st1 := [.int r, .int r]) (C := RX6) (T := TX6) (N := 11) (ci := 6) (E := Em) X hK6 hE6 hP6 hS hl.1 (c6_ticksFor l Em hJ6 hc6 (xs (i + 1)) Bm (r, B1) e6) wd_31_6 wd_31_7 wd_31_8 wd_1_5 wd_31_9 hd6_ticksFor ⟨Nat.le_of_ble_eq_true rfl, Nat.le_of_ble_eq_true rfl⟩ ⟨hc1, hs1⟩ hc6.i (hc6.c _) rfl (Nat.le_of_ble_eq_true rfl) rfl rfl dL_law_643 (fun H6 locs6 hP6 _ hk6 hS => ?_)
  have hP5 := mP_out hP5 hdis hk6
  refine lv_icmp_eq (tgt := 762) hx hb dL_law_646 (by decide) (fun _ => ?_) (fun h => absurd rfl h)
  exact kk H6 locs6 ls A1 B1 ⟨hP5, hP6, hRel, hS⟩ hl
set_option maxHeartbeats 1000000 in
set_option maxRecDepth 100000 in
theorem lk_bestRule (C : lwC p s m cd b L xs Ec Em A) (S : lwS s Ec Em A k Ac Bm H locs) (hk : k < 3000) (hl : lwL ls b Ec Em i) (hi : i + 2 < L) (hc1 : cells ≤ 600000) (hs1 : slots ≤ 7302250)
    (kk : ∀ (H1 : Heap) (locs1 : List Loc) (ls1 : Array Slot) (Ac1 Bm1 : mM), lwS s Ec Em A (k + 1) Ac1 Bm1 H1 locs1 → lwL ls1 b Ec Em i → W p l e room_1 s m #[Value.ref b] below meth cd H1 locs1 cells slots Q (F0 m 762 ls1 [])) : W p l e room_1 s m #[Value.ref b] below meth cd H locs cells slots Q (F0 m 651 ls []) := by
  obtain ⟨X, hK5, hK6, ⟨hJ5, hJ6⟩, ⟨hc5, hc6⟩, ⟨hE5, hE6⟩, hdis, -⟩ := id C
  obtain ⟨hP5, hP6, hRel, hS⟩ := S
  have hx := X.1
  have hb := X.2.1
  have hdis2 : ∀ q, mA Em q → ¬ mA Ec q := fun q h1 h2 => hdis q h2 h1
  obtain ⟨r, A1, B1, e5, e6, hRel⟩ := rel_bestRule hRel (xs (i + 1))
  refine lv_aload_n hx hb dL_law_651 rfl (lv_at hl 1 rfl) ?_
  refine lw_rd1 C hS hl hi dL_law_652 dL_law_653 dL_law_654 dL_law_655 dL_law_656 ?_
  refine nx_callV (As := [.int (xs (i + 1))]) (rest := []) (st1 := [.int r]) (C := RX5) (T := TX5) (N := 6) (ci := 5) (E := Ec) X hK5 hE5 hP5 hS hl.1 (c5_bestRule l Ec hJ5 hc5 (xs (i + 1)) Ac (r, A1) e5) wd_31_14 wd_31_15 wd_31_16 wd_1_2 wd_31_17 hd5_bestRule ⟨Nat.le_of_ble_eq_true rfl, Nat.le_of_ble_eq_true rfl⟩ ⟨hc1, hs1⟩ hc5.i (hc5.c _) rfl (Nat.le_of_ble_eq_true rfl) rfl rfl dL_law_657 (fun H5 locs5 hP5 _ hk5 hS => ?_)
  have hP6 := mP_out hP6 hdis2 hk5
  refine lv_aload_n hx hb dL_law_660 rfl (lv_at hl 2 rfl) ?_
  refine lw_rd1 C hS hl hi dL_law_661 dL_law_662 dL_law_663 dL_law_664 dL_law_665 ?_
  refine nx_callV (As := [.int (xs (i + 1))]) (rest := [.int r]) (st1 := [.int r, .int r]) (C := RX6) (T := TX6) (N := 11) (ci := 6) (E := Em) X hK6 hE6 hP6 hS hl.1 (c6_bestRule l Em hJ6 hc6 (xs (i + 1)) Bm (r, B1) e6) wd_31_18 wd_31_19 wd_31_20 wd_1_5 wd_31_21 hd6_bestRule ⟨Nat.le_of_ble_eq_true rfl, Nat.le_of_ble_eq_true rfl⟩ ⟨hc1, hs1⟩ hc6.i (hc6.c _) rfl (Nat.le_of_ble_eq_true rfl) rfl rfl dL_law_666 (fun H6 locs6 hP6 _ hk6 hS => ?_)
  have hP5 := mP_out hP5 hdis hk6
  refine lv_icmp_eq (tgt := 762) hx hb dL_law_669 (by decide) (fun _ => ?_) (fun h => absurd rfl h)
  exact kk H6 locs6 ls A1 B1 ⟨hP5, hP6, hRel, hS⟩ hl
set_option maxHeartbeats 1000000 in
set_option maxRecDepth 100000 in
theorem lk_bestLoad (C : lwC p s m cd b L xs Ec Em A) (S : lwS s Ec Em A k Ac Bm H locs) (hk : k < 3000) (hl : lwL ls b Ec Em i) (hi : i + 2 < L) (hc1 : cells ≤ 600000) (hs1 : slots ≤ 7302250)
    (kk : ∀ (H1 : Heap) (locs1 : List Loc) (ls1 : Array Slot) (Ac1 Bm1 : mM), lwS s Ec Em A (k + 1) Ac1 Bm1 H1 locs1 → lwL ls1 b Ec Em i → W p l e room_1 s m #[Value.ref b] below meth cd H1 locs1 cells slots Q (F0 m 762 ls1 [])) : W p l e room_1 s m #[Value.ref b] below meth cd H locs cells slots Q (F0 m 674 ls []) := by
  obtain ⟨X, hK5, hK6, ⟨hJ5, hJ6⟩, ⟨hc5, hc6⟩, ⟨hE5, hE6⟩, hdis, -⟩ := id C
  obtain ⟨hP5, hP6, hRel, hS⟩ := S
  have hx := X.1
  have hb := X.2.1
  have hdis2 : ∀ q, mA Em q → ¬ mA Ec q := fun q h1 h2 => hdis q h2 h1
  obtain ⟨r, A1, B1, e5, e6, hRel⟩ := rel_bestLoad hRel (xs (i + 1)) (xs (i + 2))
  refine lv_aload_n hx hb dL_law_674 rfl (lv_at hl 1 rfl) ?_
  refine lw_rd1 C hS hl hi dL_law_675 dL_law_676 dL_law_677 dL_law_678 dL_law_679 ?_
  refine lw_rd2 C hS hl hi dL_law_680 dL_law_681 dL_law_682 dL_law_683 dL_law_684 ?_
  refine nx_callV (As := [.int (xs (i + 1)), .int (xs (i + 2))]) (rest := []) (st1 := [.int r]) (C := RX5) (T := TX5) (N := 6) (ci := 5) (E := Ec) X hK5 hE5 hP5 hS hl.1 (c5_bestLoad l Ec hJ5 hc5 (xs (i + 1)) (xs (i + 2)) Ac (r, A1) e5) wd_32_2 wd_32_3 wd_32_4 wd_1_2 wd_32_5 hd5_bestLoad ⟨Nat.le_of_ble_eq_true rfl, Nat.le_of_ble_eq_true rfl⟩ ⟨hc1, hs1⟩ hc5.i (hc5.c _) rfl (Nat.le_of_ble_eq_true rfl) rfl rfl dL_law_685 (fun H5 locs5 hP5 _ hk5 hS => ?_)
  have hP6 := mP_out hP6 hdis2 hk5
  refine lv_aload_n hx hb dL_law_688 rfl (lv_at hl 2 rfl) ?_
  refine lw_rd1 C hS hl hi dL_law_689 dL_law_690 dL_law_691 dL_law_692 dL_law_693 ?_
  refine lw_rd2 C hS hl hi dL_law_694 dL_law_695 dL_law_696 dL_law_697 dL_law_698 ?_
  refine nx_callV (As := [.int (xs (i + 1)), .int (xs (i + 2))]) (rest := [.int r]) (st1 := [.int r, .int r]) (C := RX6) (T := TX6) (N := 11) (ci := 6) (E := Em) X hK6 hE6 hP6 hS hl.1 (c6_bestLoad l Em hJ6 hc6 (xs (i + 1)) (xs (i + 2)) Bm (r, B1) e6) wd_32_6 wd_32_7 wd_32_8 wd_1_5 wd_32_9 hd6_bestLoad ⟨Nat.le_of_ble_eq_true rfl, Nat.le_of_ble_eq_true rfl⟩ ⟨hc1, hs1⟩ hc6.i (hc6.c _) rfl (Nat.le_of_ble_eq_true rfl) rfl rfl dL_law_699 (fun H6 locs6 hP6 _ hk6 hS => ?_)
  have hP5 := mP_out hP5 hdis hk6
  refine lv_icmp_eq (tgt := 762) hx hb dL_law_702 (by decide) (fun _ => ?_) (fun h => absurd rfl h)
  exact kk H6 locs6 ls A1 B1 ⟨hP5, hP6, hRel, hS⟩ hl
set_option maxHeartbeats 1000000 in
set_option maxRecDepth 100000 in
theorem lk_meanSinking (C : lwC p s m cd b L xs Ec Em A) (S : lwS s Ec Em A k Ac Bm H locs) (hk : k < 3000) (hl : lwL ls b Ec Em i) (hi : i + 2 < L) (hc1 : cells ≤ 600000) (hs1 : slots ≤ 7302250)
    (kk : ∀ (H1 : Heap) (locs1 : List Loc) (ls1 : Array Slot) (Ac1 Bm1 : mM), lwS s Ec Em A (k + 1) Ac1 Bm1 H1 locs1 → lwL ls1 b Ec Em i → W p l e room_1 s m #[Value.ref b] below meth cd H1 locs1 cells slots Q (F0 m 762 ls1 [])) : W p l e room_1 s m #[Value.ref b] below meth cd H locs cells slots Q (F0 m 707 ls []) := by
  obtain ⟨X, hK5, hK6, ⟨hJ5, hJ6⟩, ⟨hc5, hc6⟩, ⟨hE5, hE6⟩, hdis, -⟩ := id C
  obtain ⟨hP5, hP6, hRel, hS⟩ := S
  have hx := X.1
  have hb := X.2.1
  have hdis2 : ∀ q, mA Em q → ¬ mA Ec q := fun q h1 h2 => hdis q h2 h1
  obtain ⟨r, e5, e6⟩ := st_mean hRel
  refine lv_aload_n hx hb dL_law_707 rfl (lv_at hl 1 rfl) ?_
  refine nx_callV (As := []) (rest := []) (st1 := [.double r]) (C := RX5) (T := TX5) (N := 6) (ci := 5) (E := Ec) X hK5 hE5 hP5 hS hl.1 (c5_meanSinking l Ec hJ5 hc5 Ac r e5) wd_32_10 wd_32_11 wd_32_12 wd_1_2 wd_32_13 hd5_meanSinking ⟨Nat.le_of_ble_eq_true rfl, Nat.le_of_ble_eq_true rfl⟩ ⟨hc1, hs1⟩ hc5.i (hc5.c _) rfl (Nat.le_of_ble_eq_true rfl) rfl rfl dL_law_708 (fun H5 locs5 hP5 _ hk5 hS => ?_)
  have hP6 := mP_out hP6 hdis2 hk5
  refine lv_dstore (lv' := [(4, .double r), (0, .ref b), (1, .ref (mad Ec 240)), (2, .ref (mad Em 246)), (3, .int (nI i))]) hx hb dL_law_711 hl (by decide) rfl (fun ls hl => ?_)
  refine lv_aload_n hx hb dL_law_713 rfl (lv_at hl 3 rfl) ?_
  refine nx_callV (As := []) (rest := []) (st1 := [.double r]) (C := RX6) (T := TX6) (N := 11) (ci := 6) (E := Em) X hK6 hE6 hP6 hS hl.1 (c6_meanSinking l Em hJ6 hc6 Bm r e6) wd_32_18 wd_32_19 wd_32_20 wd_1_5 wd_32_21 hd6_meanSinking ⟨Nat.le_of_ble_eq_true rfl, Nat.le_of_ble_eq_true rfl⟩ ⟨hc1, hs1⟩ hc6.i (hc6.c _) rfl (Nat.le_of_ble_eq_true rfl) rfl rfl dL_law_714 (fun H6 locs6 hP6 _ hk6 hS => ?_)
  have hP5 := mP_out hP5 hdis hk6
  refine lv_dstore (lv' := [(6, .double r), (4, .double r), (0, .ref b), (1, .ref (mad Ec 240)), (2, .ref (mad Em 246)), (3, .int (nI i))]) hx hb dL_law_717 hl (by decide) rfl (fun ls hl => ?_)
  have fin : W p l e room_1 s m #[Value.ref b] below meth cd H6 locs6 cells slots Q (F0 m 745 ls []) := by
    refine lv_goto (tgt := 762) hx hb dL_law_745 (by decide) ?_
    exact kk H6 locs6 ls Ac Bm ⟨hP5, hP6, (hRel.mono (Nat.le_succ _)), hS⟩ (lv_sub hl [2, 3, 4, 5] rfl)
  refine lv_dload hx hb dL_law_719 (lv_at hl 1 rfl) ?_
  refine lv_dload hx hb dL_law_721 (lv_at hl 0 rfl) ?_
  refine lv_dcmp hx hb dL_law_723 ?_
  refine lv_if_eq (tgt := 745) hx hb dL_law_724 (by decide) (fun _ => fin) (fun h1 => ?_)
  refine lv_dload hx hb dL_law_727 (lv_at hl 1 rfl) ?_
  refine lv_dload hx hb dL_law_729 (lv_at hl 1 rfl) ?_
  refine lv_dcmp hx hb dL_law_731 ?_
  refine lv_if_eq (tgt := 743) hx hb dL_law_732 (by decide) (fun h2 => absurd h2 h1) (fun _ => ?_)
  refine lv_dload hx hb dL_law_735 (lv_at hl 0 rfl) ?_
  refine lv_dload hx hb dL_law_737 (lv_at hl 0 rfl) ?_
  refine lv_dcmp hx hb dL_law_739 ?_
  exact lv_if_ne (tgt := 745) hx hb dL_law_740 (by decide) (fun _ => fin) (fun h2 => absurd h2 h1)
set_option maxHeartbeats 1000000 in
set_option maxRecDepth 100000 in
theorem lk_digest (C : lwC p s m cd b L xs Ec Em A) (S : lwS s Ec Em A k Ac Bm H locs) (hk : k < 3000) (hl : lwL ls b Ec Em i) (hi : i + 2 < L) (hc1 : cells ≤ 600000) (hs1 : slots ≤ 7302250)
    (kk : ∀ (H1 : Heap) (locs1 : List Loc) (ls1 : Array Slot) (Ac1 Bm1 : mM), lwS s Ec Em A (k + 1) Ac1 Bm1 H1 locs1 → lwL ls1 b Ec Em i → W p l e room_1 s m #[Value.ref b] below meth cd H1 locs1 cells slots Q (F0 m 762 ls1 [])) : W p l e room_1 s m #[Value.ref b] below meth cd H locs cells slots Q (F0 m 748 ls []) := by
  obtain ⟨X, hK5, hK6, ⟨hJ5, hJ6⟩, ⟨hc5, hc6⟩, ⟨hE5, hE6⟩, hdis, -⟩ := id C
  obtain ⟨hP5, hP6, hRel, hS⟩ := S
  have hx := X.1
  have hb := X.2.1
  have hdis2 : ∀ q, mA Em q → ¬ mA Ec q := fun q h1 h2 => hdis q h2 h1
  obtain ⟨r, A1, B1, e5, e6, hRel⟩ := rel_digest hRel
  refine lv_aload_n hx hb dL_law_748 rfl (lv_at hl 1 rfl) ?_
  refine nx_callV (As := []) (rest := []) (st1 := [.long r]) (C := RX5) (T := TX5) (N := 6) (ci := 5) (E := Ec) X hK5 hE5 hP5 hS hl.1 (c5_digest l Ec hJ5 hc5 Ac (r, A1) e5) wd_32_22 wd_32_23 wd_33_0 wd_1_2 wd_33_1 hd5_digest ⟨Nat.le_of_ble_eq_true rfl, Nat.le_of_ble_eq_true rfl⟩ ⟨hc1, hs1⟩ hc5.i (hc5.c _) rfl (Nat.le_of_ble_eq_true rfl) rfl rfl dL_law_749 (fun H5 locs5 hP5 _ hk5 hS => ?_)
  have hP6 := mP_out hP6 hdis2 hk5
  refine lv_aload_n hx hb dL_law_752 rfl (lv_at hl 2 rfl) ?_
  refine nx_callV (As := []) (rest := [.long r]) (st1 := [.long r, .long r]) (C := RX6) (T := TX6) (N := 11) (ci := 6) (E := Em) X hK6 hE6 hP6 hS hl.1 (c6_digest l Em hJ6 hc6 Bm (r, B1) e6) wd_34_5 wd_34_6 wd_34_7 wd_1_5 wd_34_8 hd6_digest ⟨Nat.le_of_ble_eq_true rfl, Nat.le_of_ble_eq_true rfl⟩ ⟨hc1, hs1⟩ hc6.i (hc6.c _) rfl (Nat.le_of_ble_eq_true rfl) rfl rfl dL_law_753 (fun H6 locs6 hP6 _ hk6 hS => ?_)
  have hP5 := mP_out hP5 hdis hk6
  refine W.lcmp hx hb dL_law_756 ?_
  rw [lg_cmp_rf]
  refine lv_if_eq (tgt := 762) hx hb dL_law_757 (by decide) (fun _ => ?_) (fun h => absurd rfl h)
  exact kk H6 locs6 ls A1 B1 ⟨hP5, hP6, hRel, hS⟩ hl
end LWK
