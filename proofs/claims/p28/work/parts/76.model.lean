/-! CONSTRUCTORS InputText(), PeatRailwayModel() -/
theorem mJ_of {E : mE} {A : Nat → Prop} {G : mM} (h : va_D A (mws E G)) : mJ E := by
  unfold mJ List.Nodup
  rw [List.pairwise_iff_getElem]
  intro i j hi hj hij he
  rw [List.length_map] at hi hj
  rw [List.getElem_map, List.getElem_map] at he
  have h1 := mws_at (E := E) (G := G) (List.getElem?_eq_getElem hi)
  have h2 := mws_at (E := E) (G := G) (List.getElem?_eq_getElem hj)
  have := h.1 i j _ _ h1 h2 he
  omega
theorem mA_of {E : mE} {A : Nat → Prop} {G : mM} (h : va_D A (mws E G)) : ∀ q, mA E q → A q := by
  rintro q ⟨c, hc, rfl⟩
  obtain ⟨i, hi⟩ := List.getElem?_of_mem hc
  exact h.2 i _ (mws_at hi)
section NXS
variable {p : Program} {l : Launch} {e : Env} {R : Room} {s : State} {m : MethodId} {args : Array Value} {below : List Frame} {meth : Method} {c : Code} {H : Heap} {locs : List Loc} {cells slots : Nat} {Q : State → Prop}
variable {cc : ByteArray} {pc nL : Nat} {ls : Array Slot} {rest : List Value} {own : String} {E : mE} {G : mM} {A : Nat → Prop}
theorem nx_get (X : nX p s m args c cc nL own A) (hK : mK E s) (hP : mP E G H) {a ci index N : Nat} {C : String} {T : u_T} {fs : List Value} {v : Value} (hI : a ∈ mI E) (hc : mcell E G a = .inr (ci, fs)) (hcl : vwCl[ci]? = some (C, T, N)) (hin : ∀ w ∈ u_ws C T N, w ∈ wsL_law) (k : Nat) (hk : k < N) (hw : Cond.fieldLink own index (T k).1 (T k).2.1 (T k).2.2.1 ∈ wsL_law) (hv : fs[k]? = some v) (hdg : decode cc pc = .ok (.getfield index, 3))
    (kk : W p l e R s m args below meth c H locs cells slots Q (F0 m (pc + 3) ls (v :: rest))) : W p l e R s m args below meth c H locs cells slots Q (F0 m pc ls (.ref (mad E a) :: rest)) := by
  obtain ⟨hx, hb, hml, hown, hts, hSt⟩ := X
  obtain ⟨q0, hq⟩ := List.getElem?_of_mem hI
  exact va_get hx hb hts hin hown hK hP q0 (by rw [mws_at hq, hc]) hcl k hk (hts _ hw) (fun _ h => h) hv hdg kk
theorem nx_iast (X : nX p s m args c cc nL own A) (hK : mK E s) (hP : mP E G H) (hD : va_D A (mws E G)) (hS : va_S A s.heap H locs) {a n : Nat} (hA : mAi E a 1 n) {i v : Int32} (hi : vp_in i n) (hdg : decode cc pc = .ok (.iastore, 1))
    (kk : ∀ (H1 : Heap) (locs1 : List Loc), mP E (up2 G a i.toNatClampNeg v) H1 → va_D A (mws E (up2 G a i.toNatClampNeg v)) → va_S A s.heap H1 locs1 → W p l e R s m args below meth c H1 locs1 cells slots Q (F0 m (pc + 1) ls rest)) : W p l e R s m args below meth c H locs cells slots Q (F0 m pc ls (.int v :: .int i :: .ref (mad E a) :: rest)) := by
  obtain ⟨hx, hb, hml, hown, hts, hSt⟩ := X
  obtain ⟨q0, hq⟩ := List.getElem?_of_mem hA.1
  refine va_iast hx hb hK hP hD hS q0 1 (by rw [mws_at hq, hA.2]) rfl hi hdg (fun H1 locs1 hP hD1 hS => ?_)
  rw [mws_put (mJ_of hD) hq (by rw [hA.2, up2_row])] at hP hD1
  exact kk H1 locs1 hP hD1 hS
end NXS
theorem mD_to {E : mE} {A : Nat → Prop} {G G' : mM} (h : va_D A (mws E G)) : va_D A (mws E G') := (mD_of (mJ_of h) G').weaken (fun _ _ _ hq => mA_of h _ hq)
set_option maxHeartbeats 4000000 in
set_option maxRecDepth 100000 in
theorem i_Text (l : Launch) (D : va_G) (Y : Nat → ClassId) (h sz : Nat) : Met l yX1_init (mWs yX1_init cX1_init 1 none) ({ frames := 1, cells := 1, slots := 40, locals := 12 }) (va_Pc [.ref h] (fun U => U.heap.size = sz ∧ va_P D vwCl [(h, .inr (1, [.null, .int 0]))] U.heap ∧ va_K D vwCl (mtY Y) U)) (va_Qv (fun _ : Nat => True) (fun u t => va_P D vwCl [(h, .inr (1, [.ref u, .int 0])), (u, .inl (Y 0, 40, .inl (fun _ => 0)))] t.heap ∧ va_D (va_A [(h, .inr (1, [.null, .int 0]))] sz) [(h, .inr (1, [.ref u, .int 0])), (u, .inl (Y 0, 40, .inl (fun _ => 0)))]) (va_A [(h, .inr (1, [.null, .int 0]))] sz)) 1 40 (va_A [(h, .inr (1, [.null, .int 0]))] sz) := by
  refine Met.ofW (cc := cX1_init) (maxL := 1) (ret := none) (by decide) rfl ?_
  intro p e s m args below meth c s₁ B hml hv
  obtain ⟨rfl, hsz, hP, hK⟩ := hv
  have hx := B.exec
  have hb := B.bytes
  have hr := B.returns
  have hts : ∀ w ∈ wsL_law, w.before _ s = true := fun w hw => atoms_spec (ws := mWs yX1_init cX1_init 1 none) B.pre w (List.mem_cons_of_mem _ hw)
  have hown : s.vm.findClass RX1 = some m.cls := findClass_of_methodNamed B.named
  have hlocks := B.notSynchronized
  have hin : meth.name = "<init>" := (name_of_methodNamed B.named B.method).1
  subst hsz
  have hD : va_D (va_A [(h, .inr (1, [.null, .int 0]))] s.heap.size) [(h, .inr (1, [.null, .int 0]))] := by
    refine ⟨fun i j p q hi hj _ => ?_, fun k q hk => va_A.in hk⟩
    have h1 : i < 1 := (List.getElem?_eq_some_iff.mp hi).1
    have h2 : j < 1 := (List.getElem?_eq_some_iff.mp hj).1
    omega
  generalize hAe : va_A [(h, .inr (1, [.null, .int 0]))] s.heap.size = A at hD ⊢
  have hA : ∀ q : Nat, s.heap.size ≤ q → A q := fun q h => by rw [← hAe]; exact Or.inr h
  have hS : va_S A s.heap s.heap [] := va_S.rf
  have hl := lv_entry ([.ref h]) (n := 1) (Nat.le_of_ble_eq_true rfl)
  rw [lg_entry_eq]
  generalize (lg_sl ([.ref h]) ++ List.replicate (1 - (lg_sl ([.ref h])).length) Slot.unset).toArray = ls at hl ⊢
  have hl : lv_has ls 1 [(0, .ref h)] := hl
  refine lv_aload_n hx hb dX1_init_0 rfl (lv_at hl 0 rfl) ?_
  refine W.objInit hx hb hown (hts _ wd_2_4) (hts _ wd_1_9) (hts _ wd_1_10) rfl (by rw [hml]; exact hl.1) rfl dX1_init_1 (Nat.le_of_ble_eq_true rfl) (Nat.le_of_ble_eq_true rfl) ?_
  refine W.eq (g2 := F0 m 4 ls []) rfl ?_
  refine lv_aload_n hx hb dX1_init_4 rfl (lv_at hl 0 rfl) ?_
  refine lv_bipush (v := (40 : Int32)) hx hb dX1_init_5 (by decide) ?_
  refine va_newa (atype := .char) (ty := .char) (N' := 40) (a0 := (40, .inl (fun _ => 0))) hx hb (hts _ wd_2_5) rfl hK hP hD hS hA (fun _ => rfl) (by decide) (by decide) (by decide) (Nat.le_of_ble_eq_true rfl) (Nat.le_of_ble_eq_true rfl) dX1_init_7 (fun a1 cA H hK2 hP hD hS => ?_)
  rw [findRow (t := 0) hK rfl hK2] at hP hD
  refine va_putF (D := D) (ci := 1) (v := .ref a1) (ty := .array .char) (C := RX1) (T := TX1) (N := 2) hx hb hts inlX1 tyX1 tyX1_ok nmX1 hown hK hP hD hS 0 rfl rfl 0 (by decide) (hts _ wd_2_6) (fun _ h9 => h9) rfl hin rfl (by decide +kernel) rfl rfl (Nat.le_of_ble_eq_true rfl) dX1_init_9 (fun H locs hP hD hS => ?_)
  exact W.vret hx hb hr (fun t ht hW => ⟨⟨a1, rfl, trivial, by rw [ht]; exact hP, hD⟩, hS.F ht⟩) hS.2.2 dX1_init_12
