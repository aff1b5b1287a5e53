/-! PURE PART: numbers and loops -/
theorem jA_lt (a b : Int32) : a < b ↔ a.toInt < b.toInt := Int32.lt_iff_toInt_lt
theorem jA_le (a b : Int32) : a ≤ b ↔ a.toInt ≤ b.toInt := Int32.le_iff_toInt_le
theorem jA_eq (a b : Int32) : a = b ↔ a.toInt = b.toInt := Int32.toInt_inj.symm
theorem jA_rng (x : Int32) : -2147483648 ≤ x.toInt ∧ x.toInt < 2147483648 := by
  have h1 := Int32.le_toInt x
  have h2 := Int32.toInt_lt x
  omega
theorem jA_bmod {z : Int} (h1 : -2147483648 ≤ z) (h2 : z < 2147483648) : z.bmod (2 ^ 32) = z := by
  rw [Int.bmod_eq_of_le (by omega) (by omega)]
theorem jA_add {x y : Int32} (h1 : -2147483648 ≤ x.toInt + y.toInt) (h2 : x.toInt + y.toInt < 2147483648) : (x + y).toInt = x.toInt + y.toInt := by
  rw [Int32.toInt_add, jA_bmod h1 h2]
theorem jA_sub {x y : Int32} (h1 : -2147483648 ≤ x.toInt - y.toInt) (h2 : x.toInt - y.toInt < 2147483648) : (x - y).toInt = x.toInt - y.toInt := by
  rw [Int32.toInt_sub, jA_bmod h1 h2]
theorem jA_mul {x y : Int32} (h1 : -2147483648 ≤ x.toInt * y.toInt) (h2 : x.toInt * y.toInt < 2147483648) : (x * y).toInt = x.toInt * y.toInt := by
  rw [Int32.toInt_mul, jA_bmod h1 h2]
theorem jA_n {n : Nat} (h : n < 2 ^ 31) : (nI n).toInt = (n : Int) := nI_toInt h
theorem jA_of {x : Int32} {n : Nat} (h0 : 0 ≤ x.toInt) (h : x.toInt < n) : ∃ j : Nat, j < n ∧ x = nI j ∧ x.toNatClampNeg = j := by
  refine ⟨x.toInt.toNat, by omega, ?_, rfl⟩
  have hr := jA_rng x
  rw [jA_eq, jA_n (by omega)]
  omega
theorem jA_clamp {n : Nat} (h : n < 2 ^ 31) : (nI n).toNatClampNeg = n := nI_clamp h
theorem jA_in {n N : Nat} (h : n < N) (hN : N < 2 ^ 31) : mIn (nI n) N := vp_in_nI h hN
theorem jA_in_iff {x : Int32} {n : Nat} : mIn x n ↔ 0 ≤ x.toInt ∧ x.toInt < n := vp_in_iff (x := x) (n := n)
theorem jA_nle {a b : Nat} (ha : a < 2 ^ 31) (hb : b < 2 ^ 31) : nI a ≤ nI b ↔ a ≤ b := nI_leI ha hb
theorem jA_nlt {a b : Nat} (ha : a < 2 ^ 31) (hb : b < 2 ^ 31) : nI a < nI b ↔ a < b := nI_ltI ha hb
theorem jA_neq {a b : Nat} (ha : a < 2 ^ 31) (hb : b < 2 ^ 31) : nI a = nI b ↔ a = b := nI_eq ha hb
theorem jA_1 (n : Nat) : nI n + 1 = nI (n + 1) := nI_1 n
theorem mCk_t {α : Type} {c : Prop} [Decidable c] {a : Option α} (h : c) : mCk c a = a := by unfold mCk; rw [if_pos h]
theorem mNm_e {α β : Type} (a : α) (f : α → Option β) : mNm a f = f a := rfl
theorem bs {α β : Type} (a : α) (f : α → Option β) : (some a).bind f = f a := rfl
theorem mOn {α : Type} (a : α) (f : Nat → α) : mOpt none a f = a := rfl
theorem mOs {α : Type} (o : Nat) (a : α) (f : Nat → α) : mOpt (some o) a f = f o := rfl
/-- a loop that counts up to K, from a state to a state, under an invariant -/
theorem lpI {α β : Type} (L : Nat → α → Int32 → Option β) (g : α → β) (I : Nat → α → Prop) (K : Nat) (hs : ∀ n i a, i < K → I i a → ∃ a', L (n + 1) a (nI i) = L n a' (nI (i + 1)) ∧ I (i + 1) a') (he : ∀ n a, I K a → L (n + 1) a (nI K) = some (g a)) : ∀ (k i n : Nat) (a : α), i + k = K → k < n → I i a → ∃ a', L n a (nI i) = some (g a') ∧ I K a' := by
  intro k
  induction k with
  | zero =>
    intro i n a hi hn ha
    obtain ⟨n, rfl⟩ : ∃ q, n = q + 1 := ⟨n - 1, by omega⟩
    have hK : i = K := by omega
    subst hK
    exact ⟨a, he n a ha, ha⟩
  | succ k ih =>
    intro i n a hi hn ha
    obtain ⟨n, rfl⟩ : ∃ q, n = q + 1 := ⟨n - 1, by omega⟩
    obtain ⟨a', h1, h2⟩ := hs n i a (by omega) ha
    rw [h1]
    exact ih (i + 1) n a' (by omega) (by omega) h2
/-- the same, of a value that is a function of the index -/
theorem lpV {α β : Type} (L : Nat → α → Int32 → Option β) (g : α → β) (v : Nat → α) (K : Nat) (hK : K < 2000) (hs : ∀ n i, i < K → L (n + 1) (v i) (nI i) = L n (v (i + 1)) (nI (i + 1))) (he : ∀ n, L (n + 1) (v K) (nI K) = some (g (v K))) : L mFu (v 0) (nI 0) = some (g (v K)) := by
  obtain ⟨a', h1, h2⟩ := lpI L g (fun i a => a = v i) K (fun n i a hi ha => ⟨v (i + 1), by rw [ha]; exact hs n i hi, rfl⟩) (fun n a ha => by rw [ha]; exact he n) K 0 mFu (v 0) (by omega) (by unfold mFu; omega) rfl
  rw [h1, h2]
def sumI (f : Nat → Int32) : Nat → Int32
  | 0 => 0
  | n + 1 => sumI f n + f n
theorem sumI_cong {f g : Nat → Int32} : ∀ {n : Nat}, (∀ i, i < n → f i = g i) → sumI f n = sumI g n
  | 0, _ => rfl
  | n + 1, h => by rw [sumI, sumI, sumI_cong (fun i hi => h i (by omega)), h n (by omega)]
def mxI (f : Nat → Int32) : Nat → Int32
  | 0 => 0
  | n + 1 => if mxI f n < f n then f n else mxI f n
theorem mxI_cong {f g : Nat → Int32} : ∀ {n : Nat}, (∀ i, i < n → f i = g i) → mxI f n = mxI g n
  | 0, _ => rfl
  | n + 1, h => by rw [mxI, mxI, mxI_cong (fun i hi => h i (by omega)), h n (by omega)]
def orI (f : Nat → Int32) : Nat → Int32
  | 0 => 0
  | n + 1 => orI f n ||| f n
theorem orI_cong {f g : Nat → Int32} : ∀ {n : Nat}, (∀ i, i < n → f i = g i) → orI f n = orI g n
  | 0, _ => rfl
  | n + 1, h => by rw [orI, orI, orI_cong (fun i hi => h i (by omega)), h n (by omega)]
theorem Int32_zero_add (x : Int32) : 0 + x = x := Int32.zero_add x
