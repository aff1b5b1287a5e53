/-! THE ROWS: what a state is, as one row of numbers z, and what happens to it -/
abbrev mR : Type := Nat → Int32
def rN (z : mR) : Nat := (z 72).toNatClampNeg
def rM (z : mR) : Nat := (z 73).toNatClampNeg
abbrev rEnd (z : mR) (s : Nat) : Prop := s = 0 ∨ s + 1 = rN z
abbrev rPs (z : mR) (s : Nat) : Prop := z (3 * s + 1) = 1
def rRoom (z : mR) (s : Nat) : Int32 := if rEnd z s then 4 else if rPs z s then 2 else 1
def rUp (z : mR) : Nat → Nat → Nat
  | 0, s => s
  | k + 1, s => if rPs z s then s else rUp z k (s + 1)
def rDn (z : mR) : Nat → Nat
  | 0 => 0
  | s + 1 => if rPs z (s + 1) then s + 1 else rDn z s
def rAb (z : mR) (s : Nat) : Nat := if s + 1 < rN z then rUp z 12 (s + 1) else s
def rBe (z : mR) (s : Nat) : Nat := if 0 < s then rDn z (s - 1) else 0
def rTrIn (z : mR) (x : Int32) : Int32 := sumI (fun t => if z (36 + 9 * t + 3) = x then 1 else 0) (rM z)
def rW (z : mR) (t : Nat) : Int32 := 4 + 2 * z (36 + 9 * t + 0) + z (36 + 9 * t + 2)
def rWIns (z : mR) (x : Int32) : Int32 := sumI (fun t => if z (36 + 9 * t + 3) = x then rW z t else 0) (rM z)
def rPeat (z : mR) : Int32 := sumI (fun t => z (36 + 9 * t + 2)) (rM z)
def rWaits (z : mR) : Int32 := sumI (fun t => z (36 + 9 * t + 7)) (rM z)
def rDeep (z : mR) : Int32 := mxI (fun s => z (3 * s + 2)) (rN z)
def rSum (z : mR) : Int32 := sumI (fun s => z (3 * s + 2)) (rN z)
def rSunk (z : mR) : Int32 := orI (fun s => if z (3 * s + 2) ≤ z 75 then 0 else 1 <<< (nI s &&& 31)) (rN z)
def rBtw (z : mR) (lo hi : Nat) (up : Int32) : Int32 := sumI (fun t => if z (36 + 9 * t + 3) ≤ nI lo then 0 else if nI hi ≤ z (36 + 9 * t + 3) then 0 else if z (36 + 9 * t + 4) = up then 1 else 0) (rM z)
def rGoR (z : mR) (p q f : Nat) (up : Int32) : Int32 :=
  if z (3 * q + 2) ≤ z 75 then
    if rTrIn z (nI q) < rRoom z q then
      if rPs z p then
        if rPs z q then 0
        else if rBtw z (min p f) (max p f) (1 - up) ≤ 0 then
          if rEnd z f then 0 else if rTrIn z (nI f) + rBtw z (min p f) (max p f) up < rRoom z f then 0 else 5
        else 4
      else 0
    else 3
  else 2
def rPl (z : mR) (t : Nat) : Nat := (z (36 + 9 * t + 3)).toNatClampNeg
def rReason (z : mR) (t : Nat) : Int32 :=
  if z (36 + 9 * t + 4) = 1 then
    if rPl z t + 1 = rN z then 0 else rGoR z (rPl z t) (rPl z t + 1) (rUp z 12 (rPl z t + 1)) 1
  else if rPl z t = 0 then (if z (36 + 9 * t + 0) * z (36 + 9 * t + 1) ≤ z 79 then 0 else 1)
  else rGoR z (rPl z t) (rPl z t - 1) (rDn z (rPl z t - 1)) 0
def rUnl (z : mR) (t : Nat) : mR := upd (upd (upd (upd (upd z 80 (z 80 + z (36 + 9 * t + 2))) (36 + 9 * t + 2) 0) (36 + 9 * t + 4) 0) (36 + 9 * t + 5) (z (36 + 9 * t + 0))) (36 + 9 * t + 8) (z (36 + 9 * t + 8) + 1)
def rLoad (z : mR) (t : Nat) : mR := upd (upd (upd (upd z 79 (z 79 - z (36 + 9 * t + 0) * z (36 + 9 * t + 1))) (36 + 9 * t + 2) (z (36 + 9 * t + 0) * z (36 + 9 * t + 1))) (36 + 9 * t + 4) 1) (36 + 9 * t + 5) (z (36 + 9 * t + 0))
def rMove (z : mR) (t q : Nat) : mR := upd (upd z (36 + 9 * t + 3) (nI q)) (36 + 9 * t + 5) (1 + z (3 * q + 2) / 100)
def rGo (z : mR) (t : Nat) : mR :=
  if z (36 + 9 * t + 4) = 1 then (if rPl z t + 1 = rN z then rUnl z t else rMove z t (rPl z t + 1))
  else if rPl z t = 0 then rLoad z t else rMove z t (rPl z t - 1)
def rTurn (z : mR) (t : Nat) : mR :=
  if z (36 + 9 * t + 5) ≤ 0 then
    if rReason z t = 0 then rGo (upd z (36 + 9 * t + 6) 0) t
    else upd (upd z (36 + 9 * t + 6) (rReason z t)) (36 + 9 * t + 7) (z (36 + 9 * t + 7) + 1)
  else upd (upd z (36 + 9 * t + 6) 0) (36 + 9 * t + 5) (z (36 + 9 * t + 5) - 1)
/-- what the sinking of a segment becomes -/
def rSk (z : mR) (s : Nat) : Int32 :=
  if rTrIn z (nI s) = 0 then (if z (3 * s + 2) - z 76 < 0 then 0 else z (3 * s + 2) - z 76)
  else if 999 < z (3 * s + 2) + rWIns z (nI s) * z (3 * s) / 10 then 999 else z (3 * s + 2) + rWIns z (nI s) * z (3 * s) / 10
def rSinkN (z : mR) (n : Nat) : mR := fun k => if k < 3 * n ∧ k % 3 = 2 then rSk z (k / 3) else z k
def rSink (z : mR) : mR := rSinkN z (rN z)
abbrev rFirst (z : mR) (t : Nat) : Prop := z 77 = 2 ∨ (z 77 = 0 ∧ z (36 + 9 * t + 4) = 1) ∨ (z 77 = 1 ∧ z (36 + 9 * t + 4) = 0)
/-- the turns of those for which the flag is as asked, up to a number -/
def rRnd (z0 : mR) (b : Prop) [Decidable b] (z : mR) : Nat → mR
  | 0 => z
  | t + 1 => if (rFirst z0 t ↔ b) then rTurn (rRnd z0 b z t) t else rRnd z0 b z t
def rTick (z : mR) : mR :=
  upd (rSink (rRnd z False (rRnd z True z (rM z)) (rM z))) 74 ((rSink (rRnd z False (rRnd z True z (rM z)) (rM z))) 74 + 1)
def rInv (z : mR) : Prop := (3 ≤ rN z ∧ rN z ≤ 12 ∧ rM z ≤ 4) ∧ z 72 = nI (rN z) ∧ z 73 = nI (rM z) ∧ ((10 ≤ (z 75).toInt ∧ (z 75).toInt ≤ 900) ∧ (1 ≤ (z 76).toInt ∧ (z 76).toInt ≤ 50) ∧ (z 77 = 0 ∨ z 77 = 1 ∨ z 77 = 2)) ∧ (z 1 = 1 ∧ z (3 * (rN z - 1) + 1) = 1) ∧ (∀ s, s < rN z → (z (3 * s + 1) = 0 ∨ z (3 * s + 1) = 1) ∧ (0 ≤ (z (3 * s)).toInt ∧ (z (3 * s)).toInt ≤ 9) ∧ 0 ≤ (z (3 * s + 2)).toInt ∧ (z (3 * s + 2)).toInt ≤ 999) ∧ (∀ t, t < rM z → (1 ≤ (z (36 + 9 * t + 0)).toInt ∧ (z (36 + 9 * t + 0)).toInt ≤ 6) ∧ (1 ≤ (z (36 + 9 * t + 1)).toInt ∧ (z (36 + 9 * t + 1)).toInt ≤ 20) ∧ (0 ≤ (z (36 + 9 * t + 2)).toInt ∧ (z (36 + 9 * t + 2)).toInt ≤ 120) ∧ (rPl z t < rN z ∧ z (36 + 9 * t + 3) = nI (rPl z t)) ∧ (z (36 + 9 * t + 4) = 0 ∨ z (36 + 9 * t + 4) = 1))
/-- a State of the class holds a row -/
def Rs (G : mM) (c : Nat) (z : mR) : Prop :=
  (G c 3 = z 72 ∧ G c 4 = z 73 ∧ G c 5 = z 79 ∧ G c 6 = z 78 ∧ G c 7 = z 80 ∧ G c 8 = z 81 ∧ G c 9 = z 74) ∧ (G (c + 3) 0 = z 75 ∧ G (c + 3) 1 = z 76 ∧ G (c + 3) 2 = z 77) ∧
  (∀ s, s < rN z → G (c + 4 + s) 0 = z (3 * s) ∧ G (c + 4 + s) 1 = rRoom z s ∧ G (c + 4 + s) 2 = z (3 * s + 2) ∧ G (c + 4 + s) 3 = nI (rAb z s) ∧ G (c + 4 + s) 4 = nI (rBe z s)) ∧
  (∀ s, s < 12 → G (c + 4 + s) 5 = 0) ∧ (∀ t, t < rM z → ∀ k, k < 9 → G (c + 16 + t) k = z (36 + 9 * t + k))
theorem upd_s (z : mR) (k : Nat) (v : Int32) : upd z k v k = v := by simp [upd]
theorem upd_n {z : mR} {k j : Nat} {v : Int32} (h : j ≠ k) : upd z k v j = z j := by simp [upd, h]
theorem upd_same {z : mR} {k : Nat} {v : Int32} (h : z k = v) : upd z k v = z := by
  funext j
  by_cases hj : j = k
  · rw [hj, upd_s, h]
  · rw [upd_n hj]
theorem upd_upd (z : mR) (k : Nat) (v w : Int32) : upd (upd z k v) k w = upd z k w := by
  funext j
  by_cases hj : j = k
  · rw [hj, upd_s, upd_s]
  · rw [upd_n hj, upd_n hj, upd_n hj]
theorem upd_swap (z : mR) {k j : Nat} (v w : Int32) (h : k ≠ j) : upd (upd z k v) j w = upd (upd z j w) k v := by
  funext i
  by_cases h1 : i = j
  · subst h1
    rw [upd_s, upd_n (Ne.symm h), upd_s]
  · by_cases h2 : i = k
    · subst h2
      rw [upd_n h1, upd_s, upd_s]
    · rw [upd_n h1, upd_n h2, upd_n h2, upd_n h1]
/-- the reference's row in its memory -/
def sr (G : mM) (z : mR) : mM := fun c k => if c = 247 then z k else G c k
theorem sr_247 (G : mM) (z : mR) : sr G z 247 = z := by funext k; simp [sr]
theorem sr_o {G : mM} {z : mR} {c : Nat} (h : c ≠ 247) : sr G z c = G c := by funext k; simp [sr, h]
theorem sr_up (G : mM) (z : mR) (k : Nat) (v : Int32) : up2 (sr G z) 247 k v = sr G (upd z k v) := by
  funext c j
  unfold up2 sr upd
  by_cases h : c = 247 <;> simp [h]
theorem sr_sr (G : mM) (z w : mR) : sr (sr G z) w = sr G w := by
  funext c k
  unfold sr
  by_cases h : c = 247 <;> simp [h]
theorem sr_id (G : mM) : sr G (G 247) = G := by
  funext c k
  unfold sr
  by_cases h : c = 247 <;> simp [h]
