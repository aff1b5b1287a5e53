/-! ROWS over the world of numbered cells -/
def mX (p : Program) (s : State) (m : MethodId) (args : Array Value) (c : Code) (cc : ByteArray) (nL : Nat) (own : String) (E : mE) : Prop := p.tables.exec = Jvm.exec ∧ c.code = cc ∧ c.maxLocals = nL ∧ s.vm.findClass own = some m.cls ∧ (∀ w ∈ wsL_law, w.before args s = true) ∧ mK E s ∧ mJ E ∧ mS E s s.heap
def mWs (y : MethodName) (cc : ByteArray) (n : Nat) (ret : Option FieldType) : List Cond := Cond.code y cc n ret :: wsL_law
def mPc (E : mE) (av : List Value) (G : mM) : Array Value → State → Prop := fun v U => v = av.toArray ∧ mP E G U.heap ∧ mK E U ∧ mS E U U.heap
def mQ (E : mE) (v : Option Value) (G : mM) : Array Value → State → Outcome → State → Prop := fun _ st oc t => oc = .returned v ∧ mP E G t.heap ∧ va_F (mA E) st t
/-- a contract of a method that makes nothing -/
def mMet (l : Launch) (E : mE) (y : MethodName) (cc : ByteArray) (n : Nat) (ret : Option FieldType) (fr lo : Nat) (av : List Value) (G : mM) (v : Option Value) (G' : mM) : Prop :=
  Met l y (mWs y cc n ret) ({ frames := fr, cells := 0, slots := 0, locals := lo }) (mPc E av G) (mQ E v G') 0 0 (mA E)
theorem mx_bind {α β : Type} {o : Option α} {f : α → Option β} {t : β} (h : o.bind f = some t) : ∃ q, o = some q ∧ f q = some t := by
  cases o with
  | none => cases h
  | some q => exact ⟨q, rfl, h⟩
def mNm {α β : Type} (a : α) (f : α → Option β) : Option β := f a
theorem mx_nm {α β : Type} {a : α} {f : α → Option β} {t : β} (h : mNm a f = some t) : ∃ v, a = v ∧ f v = some t := ⟨a, rfl, h⟩
def mCk {α : Type} (c : Prop) [Decidable c] (a : Option α) : Option α := if c then a else none
abbrev mIn (i : Int32) (n : Nat) : Prop := ¬ (i < 0 ∨ n ≤ i.toNatClampNeg)
theorem mx_lit {i : Int32} {n : Nat} (h : mIn i n) : vp_in i n := h
abbrev mNN (r : UInt64) : Prop := r &&& 0x7fffffffffffffff ≤ 0x7ff0000000000000
theorem mx_chk {α : Type} {c : Prop} [Decidable c] {a : Option α} {t : α} (h : mCk c a = some t) : c ∧ a = some t := by
  unfold mCk at h
  by_cases hc : c
  · rw [if_pos hc] at h; exact ⟨hc, h⟩
  · rw [if_neg hc] at h; cases h
theorem mx_t {α : Type} {c : Prop} [Decidable c] {a b : Option α} {t : α} (h : (if c then a else b) = some t) (hc : c) : a = some t := by rw [if_pos hc] at h; exact h
theorem mx_f {α : Type} {c : Prop} [Decidable c] {a b : Option α} {t : α} (h : (if c then a else b) = some t) (hc : ¬ c) : b = some t := by rw [if_neg hc] at h; exact h
def mOpt {α : Type} (q : Option Nat) (a : α) (f : Nat → α) : α := match q with
  | none => a
  | some c => f c
theorem mx_on {α : Type} {a : Option α} {f : Nat → Option α} {t : α} (h : mOpt none a f = some t) : a = some t := h
theorem mx_os {α : Type} {a : Option α} {f : Nat → Option α} {t : α} {o : Nat} (h : mOpt (some o) a f = some t) : f o = some t := h
abbrev mBl (x : Int32) : Prop := x = 0 ∨ x = 1
theorem mBl.n {x : Int32} (h : mBl x) : narrow .boolean (.int x) = .int x := by rcases h with rfl | rfl <;> rfl
theorem mBl.f {x : Int32} (h : mBl x) : fits .boolean (.int x) = true := by rcases h with rfl | rfl <;> rfl
def mFu : Nat := 2000
theorem mx_out {x : Int32} {n : Nat} (hn : n < 100) (h : ∀ k, k ≤ n → ¬ x = Int32.ofNat k) : x.toInt < 0 ∨ (n : Int) < x.toInt := by
  rcases Int.lt_or_le x.toInt 0 with h0 | h0
  · exact Or.inl h0
  · refine Or.inr (Int.not_le.mp fun h1 => ?_)
    obtain ⟨k, hk⟩ : ∃ k : Nat, x.toInt = (k : Int) := ⟨x.toInt.toNat, by omega⟩
    refine h k (by omega) ?_
    apply Int32.toInt_inj.mp
    rw [hk, Int32.toInt_ofNat_of_lt (by omega)]
section MXR
variable {p : Program} {l : Launch} {e : Env} {R : Room} {s : State} {m : MethodId} {args : Array Value} {below : List Frame} {meth : Method} {c : Code} {H : Heap} {locs : List Loc} {cells slots : Nat} {Q : State → Prop}
variable {cc : ByteArray} {pc nL : Nat} {ls : Array Slot} {rest : List Value} {own : String} {E : mE} {G : mM}
theorem mx_entry {y : MethodName} {n : Nat} {ret : Option FieldType} {fr lo : Nat} {s₁ : State} (B : BodyLoose p l y (headSpec (mWs y cc n ret) ({ frames := fr, cells := 0, slots := 0, locals := lo })) cc n ret e s m args below meth c s₁) (hml : c.maxLocals = n) (hK : mK E s) (hJ : mJ E) (hS : mS E s s.heap) (hy : y.cls = own) : mX p s m args c cc n own E := by
  refine ⟨B.exec, B.bytes, hml, ?_, fun w h => atoms_spec (ws := mWs y cc n ret) B.pre w (List.mem_cons_of_mem _ h), hK, hJ, hS⟩
  rw [← hy]
  exact findClass_of_methodNamed B.named
theorem mx_get (X : mX p s m args c cc nL own E) (Z : mZ E s.heap H locs G) {a ci index N : Nat} {C : String} {T : u_T} {fs : List Value} {v : Value} (hI : a ∈ mI E) (hc : mcell E G a = .inr (ci, fs)) (hcl : vwCl[ci]? = some (C, T, N)) (hin : ∀ w ∈ u_ws C T N, w ∈ wsL_law) (k : Nat) (hk : k < N) (hw : Cond.fieldLink own index (T k).1 (T k).2.1 (T k).2.2.1 ∈ wsL_law) (hv : fs[k]? = some v) (hdg : decode cc pc = .ok (.getfield index, 3))
    (kk : W p l e R s m args below meth c H locs cells slots Q (F0 m (pc + 3) ls (v :: rest))) : W p l e R s m args below meth c H locs cells slots Q (F0 m pc ls (.ref (mad E a) :: rest)) := by
  obtain ⟨hx, hb, hml, hown, hts, hK, hJ, hSt⟩ := X
  obtain ⟨q0, hq⟩ := List.getElem?_of_mem hI
  exact va_get hx hb hts hin hown hK Z.1 q0 (by rw [mws_at hq, hc]) hcl k hk (hts _ hw) (fun _ h => h) hv hdg kk
theorem mx_put (X : mX p s m args c cc nL own E) (Z : mZ E s.heap H locs G) {a ci index N : Nat} {C : String} {T : u_T} {fs : List Value} {v : Int32} (hI : a ∈ mI E) (hc : mcell E G a = .inr (ci, fs)) (hcl : vwCl[ci]? = some (C, T, N)) (hin : ∀ w ∈ u_ws C T N, w ∈ wsL_law) (ty0 : Nat → FieldType) (hty : ∀ k, k < N → parseFieldDescriptor (T k).2.2.1 = some (ty0 k)) (hnm : ∀ a, a < N → ∀ b, b < N → a ≠ b → (T a).2.1 ≠ (T b).2.1) (k : Nat) (hk : k < N) (hw : Cond.fieldLink own index (T k).1 (T k).2.1 (T k).2.2.1 ∈ wsL_law) (hfin : (T k).2.2.2 = false) (hn : narrow (ty0 k) (.int v) = .int v) (hf : fits (ty0 k) (.int v) = true) (hl : k < fs.length) (hset : mcell E (up2 G a k v) a = .inr (ci, fs.set k (.int v))) (hdg : decode cc pc = .ok (.putfield index, 3))
    (kk : ∀ (H1 : Heap) (locs1 : List Loc), mZ E s.heap H1 locs1 (up2 G a k v) → W p l e R s m args below meth c H1 locs1 cells slots Q (F0 m (pc + 3) ls rest)) : W p l e R s m args below meth c H locs cells slots Q (F0 m pc ls (.int v :: .ref (mad E a) :: rest)) := by
  obtain ⟨hx, hb, hml, hown, hts, hK, hJ, hSt⟩ := X
  obtain ⟨q0, hq⟩ := List.getElem?_of_mem hI
  refine va_put hx hb hts hin ty0 hty hnm hown hK Z.1 (mD_of hJ G) Z.2 q0 (by rw [mws_at hq, hc]) hcl k hk (hts _ hw) (fun _ h => h) hfin (hty k hk) hn hf hl hdg (fun H1 locs1 hP hD hS => ?_)
  rw [mws_put hJ hq hset] at hP
  exact kk H1 locs1 ⟨hP, hS⟩
theorem mx_putl (X : mX p s m args c cc nL own E) (Z : mZ E s.heap H locs G) {a ci index N : Nat} {C : String} {T : u_T} {fs : List Value} {v : Value} {G' : mM} (hI : a ∈ mI E) (hc : mcell E G a = .inr (ci, fs)) (hcl : vwCl[ci]? = some (C, T, N)) (hin : ∀ w ∈ u_ws C T N, w ∈ wsL_law) (ty0 : Nat → FieldType) (hty : ∀ k, k < N → parseFieldDescriptor (T k).2.2.1 = some (ty0 k)) (hnm : ∀ a, a < N → ∀ b, b < N → a ≠ b → (T a).2.1 ≠ (T b).2.1) (k : Nat) (hk : k < N) (hw : Cond.fieldLink own index (T k).1 (T k).2.1 (T k).2.2.1 ∈ wsL_law) (hfin : (T k).2.2.2 = false) (hn : narrow (ty0 k) v = v) (hf : fits (ty0 k) v = true) (hl : k < fs.length) (hset : mcell E G' a = .inr (ci, fs.set k v)) (ho : ∀ c, c ≠ a → G' c = G c) (hdg : decode cc pc = .ok (.putfield index, 3))
    (kk : ∀ (H1 : Heap) (locs1 : List Loc), mZ E s.heap H1 locs1 G' → W p l e R s m args below meth c H1 locs1 cells slots Q (F0 m (pc + 3) ls rest)) : W p l e R s m args below meth c H locs cells slots Q (F0 m pc ls (v :: .ref (mad E a) :: rest)) := by
  obtain ⟨hx, hb, hml, hown, hts, hK, hJ, hSt⟩ := X
  obtain ⟨q0, hq⟩ := List.getElem?_of_mem hI
  refine va_put hx hb hts hin ty0 hty hnm hown hK Z.1 (mD_of hJ G) Z.2 q0 (by rw [mws_at hq, hc]) hcl k hk (hts _ hw) (fun _ h => h) hfin (hty k hk) hn hf hl hdg (fun H1 locs1 hP hD hS => ?_)
  rw [show (mws E G).set q0 (mad E a, .inr (ci, fs.set k v)) = mws E G' by rw [← hset]; exact mws_set hJ hq ho] at hP
  exact kk H1 locs1 ⟨hP, hS⟩
theorem mx_iald (X : mX p s m args c cc nL own E) (Z : mZ E s.heap H locs G) {a n : Nat} (hA : mAi E a 1 n) {i : Int32} (hi : vp_in i n) (hdg : decode cc pc = .ok (.iaload, 1))
    (kk : W p l e R s m args below meth c H locs cells slots Q (F0 m (pc + 1) ls (.int (G a i.toNatClampNeg) :: rest))) : W p l e R s m args below meth c H locs cells slots Q (F0 m pc ls (.int i :: .ref (mad E a) :: rest)) := by
  obtain ⟨hx, hb, hml, hown, hts, hK, hJ, hSt⟩ := X
  obtain ⟨q0, hq⟩ := List.getElem?_of_mem hA.1
  exact va_iald hx hb hK Z.1 q0 1 (by rw [mws_at hq, hA.2]) rfl hi hdg kk
theorem mx_cald (X : mX p s m args c cc nL own E) (Z : mZ E s.heap H locs G) {a n : Nat} (hA : mAi E a 0 n) {i : Int32} (hi : vp_in i n) (hdg : decode cc pc = .ok (.caload, 1))
    (kk : W p l e R s m args below meth c H locs cells slots Q (F0 m (pc + 1) ls (.int (G a i.toNatClampNeg) :: rest))) : W p l e R s m args below meth c H locs cells slots Q (F0 m pc ls (.int i :: .ref (mad E a) :: rest)) := by
  obtain ⟨hx, hb, hml, hown, hts, hK, hJ, hSt⟩ := X
  obtain ⟨q0, hq⟩ := List.getElem?_of_mem hA.1
  exact va_cald hx hb hK Z.1 q0 0 (by rw [mws_at hq, hA.2]) rfl hi hdg kk
theorem mx_iast (X : mX p s m args c cc nL own E) (Z : mZ E s.heap H locs G) {a n : Nat} (hA : mAi E a 1 n) {i v : Int32} (hi : vp_in i n) (hdg : decode cc pc = .ok (.iastore, 1))
    (kk : ∀ (H1 : Heap) (locs1 : List Loc), mZ E s.heap H1 locs1 (up2 G a i.toNatClampNeg v) → W p l e R s m args below meth c H1 locs1 cells slots Q (F0 m (pc + 1) ls rest)) : W p l e R s m args below meth c H locs cells slots Q (F0 m pc ls (.int v :: .int i :: .ref (mad E a) :: rest)) := by
  obtain ⟨hx, hb, hml, hown, hts, hK, hJ, hSt⟩ := X
  obtain ⟨q0, hq⟩ := List.getElem?_of_mem hA.1
  refine va_iast hx hb hK Z.1 (mD_of hJ G) Z.2 q0 1 (by rw [mws_at hq, hA.2]) rfl hi hdg (fun H1 locs1 hP hD hS => ?_)
  rw [mws_put hJ hq (by rw [hA.2, up2_row])] at hP
  exact kk H1 locs1 ⟨hP, hS⟩
theorem mx_cast (X : mX p s m args c cc nL own E) (Z : mZ E s.heap H locs G) {a n : Nat} (hA : mAi E a 0 n) {i v : Int32} (hi : vp_in i n) (hdg : decode cc pc = .ok (.castore, 1))
    (kk : ∀ (H1 : Heap) (locs1 : List Loc), mZ E s.heap H1 locs1 (up2 G a i.toNatClampNeg (vp_nar .char v)) → W p l e R s m args below meth c H1 locs1 cells slots Q (F0 m (pc + 1) ls rest)) : W p l e R s m args below meth c H locs cells slots Q (F0 m pc ls (.int v :: .int i :: .ref (mad E a) :: rest)) := by
  obtain ⟨hx, hb, hml, hown, hts, hK, hJ, hSt⟩ := X
  obtain ⟨q0, hq⟩ := List.getElem?_of_mem hA.1
  refine va_cast hx hb hK Z.1 (mD_of hJ G) Z.2 q0 0 (by rw [mws_at hq, hA.2]) rfl hi hdg (fun H1 locs1 hP hD hS => ?_)
  rw [mws_put hJ hq (by rw [hA.2, up2_row])] at hP
  exact kk H1 locs1 ⟨hP, hS⟩
theorem mx_aald (X : mX p s m args c cc nL own E) (Z : mZ E s.heap H locs G) {a t n : Nat} {f : mM → Nat → Nat} {C : String} (hA : mAr E a t n f) (ht : (mtys E)[t]? = some (mY E t, .object C)) {i : Int32} (hi : vp_in i n) (hdg : decode cc pc = .ok (.aaload, 1))
    (kk : W p l e R s m args below meth c H locs cells slots Q (F0 m (pc + 1) ls (.ref (mad E (f G i.toNatClampNeg)) :: rest))) : W p l e R s m args below meth c H locs cells slots Q (F0 m pc ls (.int i :: .ref (mad E a) :: rest)) := by
  obtain ⟨hx, hb, hml, hown, hts, hK, hJ, hSt⟩ := X
  obtain ⟨q0, hq⟩ := List.getElem?_of_mem hA.1
  exact va_aldq (f := fun q => some (mad E (f G q))) hx hb hK Z.1 q0 t (by rw [mws_at hq, hA.2]) ht hi hdg kk
/-- a State into History's row -/
theorem mx_aast (X : mX p s m args c cc nL own E) (Z : mZ E s.heap H locs G) {d : Nat} (hA : mAr E 244 3 8 (fun G q => (G 244 q).toNatClampNeg)) (hd : mSt E d) {i : Int32} (hi : vp_in i 8) (hdg : decode cc pc = .ok (.aastore, 1))
    (kk : ∀ (H1 : Heap) (locs1 : List Loc), mZ E s.heap H1 locs1 (up2 G 244 i.toNatClampNeg (nI d)) → W p l e R s m args below meth c H1 locs1 cells slots Q (F0 m (pc + 1) ls rest)) : W p l e R s m args below meth c H locs cells slots Q (F0 m pc ls (.ref (mad E d) :: .int i :: .ref (mad E 244) :: rest)) := by
  obtain ⟨hx, hb, hml, hown, hts, hK, hJ, hSt⟩ := X
  obtain ⟨q0, hq⟩ := List.getElem?_of_mem hA.1
  obtain ⟨q1, hq1⟩ := List.getElem?_of_mem hd.i
  refine va_astq (r := (RX3, TX3, 11)) hx hb hK Z.1 (mD_of hJ G) Z.2 q0 3 q1 3 (by rw [mws_at hq, hA.2]) rfl (by rw [mws_at hq1, hd.c]) rfl hi hdg (fun H1 locs1 hP hD hS => ?_)
  rw [mws_put hJ (k := i.toNatClampNeg) (v := nI d) hq (by
    rw [hA.2]
    congr 7
    funext q
    unfold va_up
    by_cases h : q = i.toNatClampNeg
    · rw [if_pos h, h]
      show some (mad E (up2 G 244 i.toNatClampNeg (nI d) 244 i.toNatClampNeg).toNatClampNeg) = some (mad E d)
      rw [up2_same, nI_clamp (by have := hd.1; omega)]
    · rw [if_neg h]
      show some (mad E (up2 G 244 i.toNatClampNeg (nI d) 244 q).toNatClampNeg) = some (mad E (G 244 q).toNatClampNeg)
      rw [up2_ne (Or.inr h)])] at hP
  exact kk H1 locs1 ⟨hP, hS⟩
theorem mx_alen (X : mX p s m args c cc nL own E) (Z : mZ E s.heap H locs G) {a t : Nat} {x : vp_A} {ty : FieldType} (hI : a ∈ mI E) (hc : mcell E G a = .inl (mY E t, x)) (ht : (mtys E)[t]? = some (mY E t, ty)) {v : Int32} (hv : Int32.ofNat x.1 = v) (hdg : decode cc pc = .ok (.arraylength, 1))
    (kk : W p l e R s m args below meth c H locs cells slots Q (F0 m (pc + 1) ls (.int v :: rest))) : W p l e R s m args below meth c H locs cells slots Q (F0 m pc ls (.ref (mad E a) :: rest)) := by
  obtain ⟨hx, hb, hml, hown, hts, hK, hJ, hSt⟩ := X
  obtain ⟨q0, hq⟩ := List.getElem?_of_mem hI
  exact va_alen hx hb hK Z.1 q0 t (by rw [mws_at hq, hc]) ht hv hdg kk
/-- a static row's element -/
theorem mx_stat (X : mX p s m args c cc nL own E) (Z : mZ E s.heap H locs G) {i index : Nat} (hi : i < 3) (hw : Cond.fieldLink own index "PeatRailway" (mStatN i) "[I" ∈ wsL_law) (hdg : decode cc pc = .ok (.getstatic index, 3))
    (kk : ∀ t : Nat, va_T .int t 3 (fun j => .int (mStat i j)) (mA E) s s.heap → W p l e R s m args below meth c H locs cells slots Q (F0 m (pc + 3) ls (.ref t :: rest))) : W p l e R s m args below meth c H locs cells slots Q (F0 m pc ls rest) := by
  obtain ⟨hx, hb, hml, hown, hts, hK, hJ, hSt⟩ := X
  obtain ⟨t, h1, h2⟩ := hSt i hi
  exact va_gets hx hb h1 Z.2 hown (hts _ hw) (fun _ h => h) hdg (kk t h2)
theorem mx_max (X : mX p s m args c cc nL own E) (hs : ls.size = nL) {index : Nat} (hw : Cond.methodLink own index Lib.Math.max.name ∈ wsL_law) (h1 : Cond.static Lib.Math.max.name ∈ wsL_law) (h2 : Cond.initialized "java/lang/Math" ∈ wsL_law) (h3 : Cond.code Lib.Math.max.name Lib.Math.max.code 2 (some .int) ∈ wsL_law) (hf : 1 ≤ R.frames) (hlo : (rest.map fun v => v.category).sum + 13 ≤ R.locals) (hcs : cells ≤ R.cells ∧ slots ≤ R.slots) {x y : Int32} (hdg : decode cc pc = .ok (.invokestatic index, 3))
    (kk : W p l e R s m args below meth c H locs cells slots Q (F0 m (pc + 3) ls (.int (if x < y then y else x) :: rest))) : W p l e R s m args below meth c H locs cells slots Q (F0 m pc ls (.int y :: .int x :: rest)) := by
  obtain ⟨hx, hb, hml, hown, hts, hK, hJ, hSt⟩ := X
  exact va_mmax hx hb (hml.trans hs.symm) hown (hts _ hw) (hts _ h1) (hts _ h2) (hts _ h3) hf hlo hcs.1 hcs.2 hdg kk
theorem mx_min (X : mX p s m args c cc nL own E) (hs : ls.size = nL) {index : Nat} (hw : Cond.methodLink own index Lib.Math.min.name ∈ wsL_law) (h1 : Cond.static Lib.Math.min.name ∈ wsL_law) (h2 : Cond.initialized "java/lang/Math" ∈ wsL_law) (h3 : Cond.code Lib.Math.min.name Lib.Math.min.code 2 (some .int) ∈ wsL_law) (hf : 1 ≤ R.frames) (hlo : (rest.map fun v => v.category).sum + 13 ≤ R.locals) (hcs : cells ≤ R.cells ∧ slots ≤ R.slots) {x y : Int32} (hdg : decode cc pc = .ok (.invokestatic index, 3))
    (kk : W p l e R s m args below meth c H locs cells slots Q (F0 m (pc + 3) ls (.int (if y < x then y else x) :: rest))) : W p l e R s m args below meth c H locs cells slots Q (F0 m pc ls (.int y :: .int x :: rest)) := by
  obtain ⟨hx, hb, hml, hown, hts, hK, hJ, hSt⟩ := X
  exact va_mmin hx hb (hml.trans hs.symm) hown (hts _ hw) (hts _ h1) (hts _ h2) (hts _ h3) hf hlo hcs.1 hcs.2 hdg kk
theorem mx_good {ws : List Cond} (h : ∀ w ∈ ws, w ∈ wsL_law) : GoodIn wsL_law ws := fun w hw => ⟨h w hw, good_of_word (wd_good w (h w hw))⟩
theorem mPc.blind {av : List Value} : FrameBlind (mPc E av G) := fun a U g mk q => ⟨q.1, q.2.1, va_K.moved (u := U) (U := U.calling g mk a) (Vm.Alike.refl U.vm) q.2.2.1, (q.2.2.2 : mS E U U.heap).moved (U := U.calling g mk a) (Vm.Alike.refl U.vm)⟩
theorem mx_pre (X : mX p s m args c cc nL own E) (Z : mZ E s.heap H locs G) {av : List Value} (U : State) (hU : U.heap = H) (hW : s.WarmedH U.vm) : mPc E av G av.toArray U := by
  obtain ⟨hx, hb, hml, hown, hts, hK, hJ, hSt⟩ := X
  refine ⟨rfl, by rw [hU]; exact Z.1, va_K.moved hW.alike hK, ?_⟩
  rw [hU]
  exact (hSt.kept (fun a h1 h2 => Z.2.2.1 a h1 h2)).moved hW.alike
theorem mx_back {mc ms : Nat} {a : Array Value} {v : Option Value} {G' : mM} {st0 : List Value} (hr : va_Run p l e R s m args below meth c H locs cells slots 0 0 (F0 m pc ls st0) rest (mQ E v G' a) (mA E)) (Z : mZ E s.heap H locs G)
    (kk : ∀ (H1 : Heap) (locs1 : List Loc), mZ E s.heap H1 locs1 G' → W p l e R s m args below meth c H1 locs1 cells slots Q (F0 m (pc + 3) ls (v.toList ++ rest))) : W p l e R s m args below meth c H locs cells slots Q (F0 m pc ls st0) := by
  intro T hT X
  obtain ⟨v1, st₀, t, T', L, h0, X', hL, e1, e2, ⟨hv, hp, hz, hk⟩, st⟩ := hr T hT X
  cases hv
  rw [h0] at hz hk
  obtain ⟨t2, a1, b1⟩ := kk T'.heap (locs ++ L) ⟨by rw [e1]; exact hp, Nat.le_trans Z.2.1 (by rw [e1]; exact hz), fun q h1 h2 => by rw [e1, hk q (Nat.lt_of_lt_of_le h1 Z.2.1) h2]; exact Z.2.2.1 q h1 h2, fun q hq => by
      rcases List.mem_append.mp hq with h | h
      · exact Z.2.2.2 q h
      · exact hL q h⟩ T' rfl X'
  exact ⟨t2, st t2 a1, b1⟩
theorem mx_callV (X : mX p s m args c cc nL own E) (Z : mZ E s.heap H locs G) (hs : ls.size = nL) {y : MethodName} {cc' : ByteArray} {n' : Nat} {ret : Option FieldType} {fr lo index cB ci N : Nat} {C : String} {T : u_T} {fs : List Value} {As : List Value} {v : Option Value} {G' : mM} (hM : mMet l E y cc' n' ret fr lo (.ref (mad E cB) :: As) G v G') (w1 : Cond.methodLink own index y ∈ wsL_law) (w2 : Cond.instanceMethod y ∈ wsL_law) (w3 : Cond.selects C y y ∈ wsL_law) (w4 : Cond.initialized C ∈ wsL_law) (w5 : Cond.code y cc' n' ret ∈ wsL_law) (hd : y.cls = C ∧ y.cls ≠ "java/lang/invoke/MethodHandle" ∧ y.cls ≠ "java/lang/invoke/VarHandle" ∧ (parseMethodDescriptor y.desc).map (fun d => d.parameters.length) = some As.length) (hR : fr + 1 ≤ R.frames ∧ 8 + (n' + 11) + lo ≤ R.locals) (hcs : cells ≤ R.cells ∧ slots ≤ R.slots) (hI : cB ∈ mI E) (hc : mcell E G cB = .inr (ci, fs)) (hcl : vwCl[ci]? = some (C, T, N)) (hcat : (rest.map fun v => v.category).sum ≤ 8) {st0 st1 : List Value} (hst : st0 = As.reverse ++ .ref (mad E cB) :: rest) (hs1 : v.toList ++ rest = st1) (hdg : decode cc pc = .ok (.invokevirtual index, 3))
    (kk : ∀ (H1 : Heap) (locs1 : List Loc), mZ E s.heap H1 locs1 G' → W p l e R s m args below meth c H1 locs1 cells slots Q (F0 m (pc + 3) ls st1)) : W p l e R s m args below meth c H locs cells slots Q (F0 m pc ls st0) := by
  subst hs1
  obtain ⟨hx, hb, hml, hown, hts, hK, hJ, hSt⟩ := id X
  obtain ⟨q0, hq⟩ := List.getElem?_of_mem hI
  have hg : GoodIn wsL_law (wsV own index C y (mWs y cc' n' ret)) := mx_good (fun w h => by
    simp only [wsV, mWs, List.cons_append, List.nil_append, List.mem_cons] at h
    rcases h with rfl | rfl | rfl | rfl | rfl | h
    · exact w1
    · exact w2
    · exact w3
    · exact w4
    · exact w5
    · exact h)
  exact mx_back (mc := 0) (ms := 0) (va_runV (As := As) (rest := rest) (g := F0 m pc ls st0) (free := mA E) ⟨hx, hb, hml, hown, hts⟩ hM (cwV As.length hts hg rfl rfl rfl hd hR) ⟨mPc.blind, va_recv hK Z.1 (ci := ci) (q0 := q0) hcl (by rw [mws_at hq, hc]), fun U hU hW => mx_pre X Z U hU hW⟩ rfl rfl hs hst (lv_room hcat) hdg hcs) Z kk
theorem mx_callS (X : mX p s m args c cc nL own E) (Z : mZ E s.heap H locs G) (hs : ls.size = nL) {y : MethodName} {cc' : ByteArray} {n' : Nat} {ret : Option FieldType} {fr lo index : Nat} {As : List Value} {v : Option Value} {G' : mM} (hM : mMet l E y cc' n' ret fr lo As G v G') (w1 : Cond.methodLink own index y ∈ wsL_law) (w2 : Cond.static y ∈ wsL_law) (w4 : Cond.initialized y.cls ∈ wsL_law) (w5 : Cond.code y cc' n' ret ∈ wsL_law) (hd : y.cls ≠ "java/lang/invoke/MethodHandle" ∧ y.cls ≠ "java/lang/invoke/VarHandle" ∧ (parseMethodDescriptor y.desc).map (fun d => d.parameters.length) = some As.length) (hR : fr + 1 ≤ R.frames ∧ 8 + (n' + 11) + lo ≤ R.locals) (hcs : cells ≤ R.cells ∧ slots ≤ R.slots) (hcat : (rest.map fun v => v.category).sum ≤ 8) {st0 st1 : List Value} (hst : st0 = As.reverse ++ rest) (hs1 : v.toList ++ rest = st1) (hdg : decode cc pc = .ok (.invokestatic index, 3))
    (kk : ∀ (H1 : Heap) (locs1 : List Loc), mZ E s.heap H1 locs1 G' → W p l e R s m args below meth c H1 locs1 cells slots Q (F0 m (pc + 3) ls st1)) : W p l e R s m args below meth c H locs cells slots Q (F0 m pc ls st0) := by
  subst hs1
  obtain ⟨hx, hb, hml, hown, hts, hK, hJ, hSt⟩ := id X
  have hg : GoodIn wsL_law (va_wsS own index y (mWs y cc' n' ret)) := mx_good (fun w h => by
    simp only [va_wsS, mWs, List.cons_append, List.nil_append, List.mem_cons] at h
    rcases h with rfl | rfl | rfl | rfl | h
    · exact w1
    · exact w2
    · exact w4
    · exact w5
    · exact h)
  exact mx_back (mc := 0) (ms := 0) (va_runS (As := As) (rest := rest) (g := F0 m pc ls st0) (free := mA E) ⟨hx, hb, hml, hown, hts⟩ hM (va_cwS As.length hts hg rfl rfl rfl hd hR) ⟨mPc.blind, fun U hU hW => mx_pre X Z U hU hW⟩ rfl rfl hs hst (lv_room hcat) hdg hcs) Z kk
theorem mx_tops {s1 s2 : List Value} (h : s1 = s2) (k : W p l e R s m args below meth c H locs cells slots Q (F0 m pc ls s2)) : W p l e R s m args below meth c H locs cells slots Q (F0 m pc ls s1) := h ▸ k
theorem mx_end (Z : mZ E s.heap H locs G) {v : Option Value} (t : State) (ht : t.heap = H) (a : Array Value) : mQ E v G a s (.returned v) t := ⟨rfl, by rw [ht]; exact Z.1, Z.2.F ht⟩
end MXR
theorem sp_Sg_0 (G : mM) (c : Nat) (v : Int32) : f_Seg (up2 G c 0 v) c = (f_Seg G c).set 0 (.int v) := by simp [f_Seg, up2]
theorem sp_Sg_1 (G : mM) (c : Nat) (v : Int32) : f_Seg (up2 G c 1 v) c = (f_Seg G c).set 1 (.int v) := by simp [f_Seg, up2]
theorem sp_Sg_2 (G : mM) (c : Nat) (v : Int32) : f_Seg (up2 G c 2 v) c = (f_Seg G c).set 2 (.int v) := by simp [f_Seg, up2]
theorem sp_Sg_3 (G : mM) (c : Nat) (v : Int32) : f_Seg (up2 G c 3 v) c = (f_Seg G c).set 3 (.int v) := by simp [f_Seg, up2]
theorem sp_Sg_4 (G : mM) (c : Nat) (v : Int32) : f_Seg (up2 G c 4 v) c = (f_Seg G c).set 4 (.int v) := by simp [f_Seg, up2]
theorem sp_Sg_5 (G : mM) (c : Nat) (v : Int32) : f_Seg (up2 G c 5 v) c = (f_Seg G c).set 5 (.int v) := by simp [f_Seg, up2]
theorem sp_Tr_0 (G : mM) (c : Nat) (v : Int32) : f_Tr (up2 G c 0 v) c = (f_Tr G c).set 0 (.int v) := by simp [f_Tr, up2]
theorem sp_Tr_1 (G : mM) (c : Nat) (v : Int32) : f_Tr (up2 G c 1 v) c = (f_Tr G c).set 1 (.int v) := by simp [f_Tr, up2]
theorem sp_Tr_2 (G : mM) (c : Nat) (v : Int32) : f_Tr (up2 G c 2 v) c = (f_Tr G c).set 2 (.int v) := by simp [f_Tr, up2]
theorem sp_Tr_3 (G : mM) (c : Nat) (v : Int32) : f_Tr (up2 G c 3 v) c = (f_Tr G c).set 3 (.int v) := by simp [f_Tr, up2]
theorem sp_Tr_4 (G : mM) (c : Nat) (v : Int32) : f_Tr (up2 G c 4 v) c = (f_Tr G c).set 4 (.int v) := by simp [f_Tr, up2]
theorem sp_Tr_5 (G : mM) (c : Nat) (v : Int32) : f_Tr (up2 G c 5 v) c = (f_Tr G c).set 5 (.int v) := by simp [f_Tr, up2]
theorem sp_Tr_6 (G : mM) (c : Nat) (v : Int32) : f_Tr (up2 G c 6 v) c = (f_Tr G c).set 6 (.int v) := by simp [f_Tr, up2]
theorem sp_Tr_7 (G : mM) (c : Nat) (v : Int32) : f_Tr (up2 G c 7 v) c = (f_Tr G c).set 7 (.int v) := by simp [f_Tr, up2]
theorem sp_Tr_8 (G : mM) (c : Nat) (v : Int32) : f_Tr (up2 G c 8 v) c = (f_Tr G c).set 8 (.int v) := by simp [f_Tr, up2]
theorem sp_Tr_9 (G : mM) (c : Nat) (v : Int32) : f_Tr (up2 G c 9 v) c = (f_Tr G c).set 9 (.int v) := by simp [f_Tr, up2]
theorem sp_St_3 (ad : Nat → Nat) (G : mM) (c : Nat) (v : Int32) : f_St ad (up2 G c 3 v) c = (f_St ad G c).set 3 (.int v) := by simp [f_St, up2]
theorem sp_St_4 (ad : Nat → Nat) (G : mM) (c : Nat) (v : Int32) : f_St ad (up2 G c 4 v) c = (f_St ad G c).set 4 (.int v) := by simp [f_St, up2]
theorem sp_St_5 (ad : Nat → Nat) (G : mM) (c : Nat) (v : Int32) : f_St ad (up2 G c 5 v) c = (f_St ad G c).set 5 (.int v) := by simp [f_St, up2]
theorem sp_St_6 (ad : Nat → Nat) (G : mM) (c : Nat) (v : Int32) : f_St ad (up2 G c 6 v) c = (f_St ad G c).set 6 (.int v) := by simp [f_St, up2]
theorem sp_St_7 (ad : Nat → Nat) (G : mM) (c : Nat) (v : Int32) : f_St ad (up2 G c 7 v) c = (f_St ad G c).set 7 (.int v) := by simp [f_St, up2]
theorem sp_St_8 (ad : Nat → Nat) (G : mM) (c : Nat) (v : Int32) : f_St ad (up2 G c 8 v) c = (f_St ad G c).set 8 (.int v) := by simp [f_St, up2]
theorem sp_St_9 (ad : Nat → Nat) (G : mM) (c : Nat) (v : Int32) : f_St ad (up2 G c 9 v) c = (f_St ad G c).set 9 (.int v) := by simp [f_St, up2]
theorem sp_St_10 (ad : Nat → Nat) (G : mM) (c : Nat) (v : Int32) : f_St ad (up2 G c 10 v) c = (f_St ad G c).set 10 (.int v) := by simp [f_St, up2]
theorem sp_Al_5 (ad : Nat → Nat) (G : mM) (c : Nat) (v : Int32) : f_Ra ad (up2 G c 5 v) c = (f_Ra ad G c).set 5 (.int v) := by simp [f_Ra, up2]
theorem sp_Tx_1 (ad : Nat → Nat) (G : mM) (c : Nat) (v : Int32) : f_Tx ad (up2 G c 1 v) c = (f_Tx ad G c).set 1 (.int v) := by simp [f_Tx, up2]
theorem sp_Hi_1 (ad : Nat → Nat) (G : mM) (c : Nat) (v : Int32) : f_Hi ad (up2 G c 1 v) c = (f_Hi ad G c).set 1 (.int v) := by simp [f_Hi, up2]
