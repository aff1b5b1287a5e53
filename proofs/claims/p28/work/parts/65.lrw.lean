/-! reads and writes of the law's rows, index and all -/
theorem ru {T : mR} {t j k : Nat} {v : Int32} (h : k ≠ j) : upd T (10 * t + j) v (10 * t + k) = T (10 * t + k) := upd_n (by omega)
theorem ru0 {T : mR} {t j : Nat} {v : Int32} (h : 0 < j) : upd T (10 * t + j) v (10 * t) = T (10 * t) := upd_n (by omega)
section LRW
variable {a b c : Nat} {G : mM} {D S T : mR}
theorem rT0 (h3 : l3 a b c) {t : Nat} (h : t < 4) : lm a b c G D S T c (((10 : Int32) * nI t).toNatClampNeg) = T (10 * t) := by rw [lm_c h3, tc0 h]
theorem wT0 (h3 : l3 a b c) {t : Nat} (h : t < 4) {v : Int32} : up2 (lm a b c G D S T) c (((10 : Int32) * nI t).toNatClampNeg) v = lm a b c G D S (upd T (10 * t) v) := by rw [lm_uc h3, tc0 h]
theorem rD0 : lm a b c G D S T a ((0 : Int32).toNatClampNeg) = D 0 := by rw [lm_a, dc0]
theorem wD0 {v : Int32} : up2 (lm a b c G D S T) a ((0 : Int32).toNatClampNeg) v = lm a b c G (upd D 0 v) S T := by rw [lm_ua, dc0]
theorem rT1 (h3 : l3 a b c) {t : Nat} (h : t < 4) : lm a b c G D S T c (((10 : Int32) * nI t + 1).toNatClampNeg) = T (10 * t + 1) := by rw [lm_c h3, tc1 h]
theorem wT1 (h3 : l3 a b c) {t : Nat} (h : t < 4) {v : Int32} : up2 (lm a b c G D S T) c (((10 : Int32) * nI t + 1).toNatClampNeg) v = lm a b c G D S (upd T (10 * t + 1) v) := by rw [lm_uc h3, tc1 h]
theorem rD1 : lm a b c G D S T a ((1 : Int32).toNatClampNeg) = D 1 := by rw [lm_a, dc1]
theorem wD1 {v : Int32} : up2 (lm a b c G D S T) a ((1 : Int32).toNatClampNeg) v = lm a b c G (upd D 1 v) S T := by rw [lm_ua, dc1]
theorem rT2 (h3 : l3 a b c) {t : Nat} (h : t < 4) : lm a b c G D S T c (((10 : Int32) * nI t + 2).toNatClampNeg) = T (10 * t + 2) := by rw [lm_c h3, tc2 h]
theorem wT2 (h3 : l3 a b c) {t : Nat} (h : t < 4) {v : Int32} : up2 (lm a b c G D S T) c (((10 : Int32) * nI t + 2).toNatClampNeg) v = lm a b c G D S (upd T (10 * t + 2) v) := by rw [lm_uc h3, tc2 h]
theorem rD2 : lm a b c G D S T a ((2 : Int32).toNatClampNeg) = D 2 := by rw [lm_a, dc2]
theorem wD2 {v : Int32} : up2 (lm a b c G D S T) a ((2 : Int32).toNatClampNeg) v = lm a b c G (upd D 2 v) S T := by rw [lm_ua, dc2]
theorem rT3 (h3 : l3 a b c) {t : Nat} (h : t < 4) : lm a b c G D S T c (((10 : Int32) * nI t + 3).toNatClampNeg) = T (10 * t + 3) := by rw [lm_c h3, tc3 h]
theorem wT3 (h3 : l3 a b c) {t : Nat} (h : t < 4) {v : Int32} : up2 (lm a b c G D S T) c (((10 : Int32) * nI t + 3).toNatClampNeg) v = lm a b c G D S (upd T (10 * t + 3) v) := by rw [lm_uc h3, tc3 h]
theorem rD3 : lm a b c G D S T a ((3 : Int32).toNatClampNeg) = D 3 := by rw [lm_a, dc3]
theorem wD3 {v : Int32} : up2 (lm a b c G D S T) a ((3 : Int32).toNatClampNeg) v = lm a b c G (upd D 3 v) S T := by rw [lm_ua, dc3]
theorem rT4 (h3 : l3 a b c) {t : Nat} (h : t < 4) : lm a b c G D S T c (((10 : Int32) * nI t + 4).toNatClampNeg) = T (10 * t + 4) := by rw [lm_c h3, tc4 h]
theorem wT4 (h3 : l3 a b c) {t : Nat} (h : t < 4) {v : Int32} : up2 (lm a b c G D S T) c (((10 : Int32) * nI t + 4).toNatClampNeg) v = lm a b c G D S (upd T (10 * t + 4) v) := by rw [lm_uc h3, tc4 h]
theorem rD4 : lm a b c G D S T a ((4 : Int32).toNatClampNeg) = D 4 := by rw [lm_a, dc4]
theorem wD4 {v : Int32} : up2 (lm a b c G D S T) a ((4 : Int32).toNatClampNeg) v = lm a b c G (upd D 4 v) S T := by rw [lm_ua, dc4]
theorem rT5 (h3 : l3 a b c) {t : Nat} (h : t < 4) : lm a b c G D S T c (((10 : Int32) * nI t + 5).toNatClampNeg) = T (10 * t + 5) := by rw [lm_c h3, tc5 h]
theorem wT5 (h3 : l3 a b c) {t : Nat} (h : t < 4) {v : Int32} : up2 (lm a b c G D S T) c (((10 : Int32) * nI t + 5).toNatClampNeg) v = lm a b c G D S (upd T (10 * t + 5) v) := by rw [lm_uc h3, tc5 h]
theorem rD5 : lm a b c G D S T a ((5 : Int32).toNatClampNeg) = D 5 := by rw [lm_a, dc5]
theorem wD5 {v : Int32} : up2 (lm a b c G D S T) a ((5 : Int32).toNatClampNeg) v = lm a b c G (upd D 5 v) S T := by rw [lm_ua, dc5]
theorem rT6 (h3 : l3 a b c) {t : Nat} (h : t < 4) : lm a b c G D S T c (((10 : Int32) * nI t + 6).toNatClampNeg) = T (10 * t + 6) := by rw [lm_c h3, tc6 h]
theorem wT6 (h3 : l3 a b c) {t : Nat} (h : t < 4) {v : Int32} : up2 (lm a b c G D S T) c (((10 : Int32) * nI t + 6).toNatClampNeg) v = lm a b c G D S (upd T (10 * t + 6) v) := by rw [lm_uc h3, tc6 h]
theorem rD6 : lm a b c G D S T a ((6 : Int32).toNatClampNeg) = D 6 := by rw [lm_a, dc6]
theorem wD6 {v : Int32} : up2 (lm a b c G D S T) a ((6 : Int32).toNatClampNeg) v = lm a b c G (upd D 6 v) S T := by rw [lm_ua, dc6]
theorem rT7 (h3 : l3 a b c) {t : Nat} (h : t < 4) : lm a b c G D S T c (((10 : Int32) * nI t + 7).toNatClampNeg) = T (10 * t + 7) := by rw [lm_c h3, tc7 h]
theorem wT7 (h3 : l3 a b c) {t : Nat} (h : t < 4) {v : Int32} : up2 (lm a b c G D S T) c (((10 : Int32) * nI t + 7).toNatClampNeg) v = lm a b c G D S (upd T (10 * t + 7) v) := by rw [lm_uc h3, tc7 h]
theorem rD7 : lm a b c G D S T a ((7 : Int32).toNatClampNeg) = D 7 := by rw [lm_a, dc7]
theorem wD7 {v : Int32} : up2 (lm a b c G D S T) a ((7 : Int32).toNatClampNeg) v = lm a b c G (upd D 7 v) S T := by rw [lm_ua, dc7]
theorem rT8 (h3 : l3 a b c) {t : Nat} (h : t < 4) : lm a b c G D S T c (((10 : Int32) * nI t + 8).toNatClampNeg) = T (10 * t + 8) := by rw [lm_c h3, tc8 h]
theorem wT8 (h3 : l3 a b c) {t : Nat} (h : t < 4) {v : Int32} : up2 (lm a b c G D S T) c (((10 : Int32) * nI t + 8).toNatClampNeg) v = lm a b c G D S (upd T (10 * t + 8) v) := by rw [lm_uc h3, tc8 h]
theorem rD8 : lm a b c G D S T a ((8 : Int32).toNatClampNeg) = D 8 := by rw [lm_a, dc8]
theorem wD8 {v : Int32} : up2 (lm a b c G D S T) a ((8 : Int32).toNatClampNeg) v = lm a b c G (upd D 8 v) S T := by rw [lm_ua, dc8]
theorem rT9 (h3 : l3 a b c) {t : Nat} (h : t < 4) : lm a b c G D S T c (((10 : Int32) * nI t + 9).toNatClampNeg) = T (10 * t + 9) := by rw [lm_c h3, tc9 h]
theorem wT9 (h3 : l3 a b c) {t : Nat} (h : t < 4) {v : Int32} : up2 (lm a b c G D S T) c (((10 : Int32) * nI t + 9).toNatClampNeg) v = lm a b c G D S (upd T (10 * t + 9) v) := by rw [lm_uc h3, tc9 h]
theorem rD9 : lm a b c G D S T a ((9 : Int32).toNatClampNeg) = D 9 := by rw [lm_a, dc9]
theorem wD9 {v : Int32} : up2 (lm a b c G D S T) a ((9 : Int32).toNatClampNeg) v = lm a b c G (upd D 9 v) S T := by rw [lm_ua, dc9]
theorem rS0 (h3 : l3 a b c) {s : Nat} (h : s < 8) : lm a b c G D S T b (((3 : Int32) * nI s).toNatClampNeg) = S (3 * s) := by rw [lm_b h3, sc0 h]
theorem wS0 (h3 : l3 a b c) {s : Nat} (h : s < 8) {v : Int32} : up2 (lm a b c G D S T) b (((3 : Int32) * nI s).toNatClampNeg) v = lm a b c G D (upd S (3 * s) v) T := by rw [lm_ub h3, sc0 h]
theorem rS1 (h3 : l3 a b c) {s : Nat} (h : s < 8) : lm a b c G D S T b (((3 : Int32) * nI s + 1).toNatClampNeg) = S (3 * s + 1) := by rw [lm_b h3, sc1 h]
theorem wS1 (h3 : l3 a b c) {s : Nat} (h : s < 8) {v : Int32} : up2 (lm a b c G D S T) b (((3 : Int32) * nI s + 1).toNatClampNeg) v = lm a b c G D (upd S (3 * s + 1) v) T := by rw [lm_ub h3, sc1 h]
theorem rS2 (h3 : l3 a b c) {s : Nat} (h : s < 8) : lm a b c G D S T b (((3 : Int32) * nI s + 2).toNatClampNeg) = S (3 * s + 2) := by rw [lm_b h3, sc2 h]
theorem wS2 (h3 : l3 a b c) {s : Nat} (h : s < 8) {v : Int32} : up2 (lm a b c G D S T) b (((3 : Int32) * nI s + 2).toNatClampNeg) v = lm a b c G D (upd S (3 * s + 2) v) T := by rw [lm_ub h3, sc2 h]
end LRW
/-- the same with the number of trains beside -/
def LRq (D S T z : mR) (M : Nat) : Prop := LR D S T z ∧ rM z = M
theorem LRq.put {D S T z : mR} {M : Nat} (h : LRq D S T z M) (hM : M ≤ 4) {t k : Nat} {v : Int32} (ht : t < M) (hk : k < 9) : LRq D S (upd T (10 * t + k) v) (upd z (36 + 9 * t + k) v) M := ⟨h.1.put (by rw [h.2]; exact hM) (by rw [h.2]; exact ht) hk, by rw [rM_upd (by omega)]; exact h.2⟩
theorem LR.q {D S T z : mR} (h : LR D S T z) : LRq D S T z (rM z) := ⟨h, rfl⟩
theorem LRq.e {D S T z w : mR} {M : Nat} (h : LRq D S T z M) (e : z = w) : LR D S T w := e ▸ h.1
theorem LRq.sc2 {D S T z : mR} {M : Nat} (h : LRq D S T z M) (hM : M ≤ 4) {v : Int32} : LRq (upd D 2 v) S T (upd z 75 v) M := ⟨h.1.sc2 (by rw [h.2]; exact hM), by rw [rM_upd (by decide)]; exact h.2⟩
theorem LRq.sc3 {D S T z : mR} {M : Nat} (h : LRq D S T z M) (hM : M ≤ 4) {v : Int32} : LRq (upd D 3 v) S T (upd z 76 v) M := ⟨h.1.sc3 (by rw [h.2]; exact hM), by rw [rM_upd (by decide)]; exact h.2⟩
theorem LRq.sc4 {D S T z : mR} {M : Nat} (h : LRq D S T z M) (hM : M ≤ 4) {v : Int32} : LRq (upd D 4 v) S T (upd z 77 v) M := ⟨h.1.sc4 (by rw [h.2]; exact hM), by rw [rM_upd (by decide)]; exact h.2⟩
theorem LRq.sc5 {D S T z : mR} {M : Nat} (h : LRq D S T z M) (hM : M ≤ 4) {v : Int32} : LRq (upd D 5 v) S T (upd z 78 v) M := ⟨h.1.sc5 (by rw [h.2]; exact hM), by rw [rM_upd (by decide)]; exact h.2⟩
theorem LRq.sc6 {D S T z : mR} {M : Nat} (h : LRq D S T z M) (hM : M ≤ 4) {v : Int32} : LRq (upd D 6 v) S T (upd z 79 v) M := ⟨h.1.sc6 (by rw [h.2]; exact hM), by rw [rM_upd (by decide)]; exact h.2⟩
theorem LRq.sc7 {D S T z : mR} {M : Nat} (h : LRq D S T z M) (hM : M ≤ 4) {v : Int32} : LRq (upd D 7 v) S T (upd z 80 v) M := ⟨h.1.sc7 (by rw [h.2]; exact hM), by rw [rM_upd (by decide)]; exact h.2⟩
theorem LRq.sc8 {D S T z : mR} {M : Nat} (h : LRq D S T z M) (hM : M ≤ 4) {v : Int32} : LRq (upd D 8 v) S T (upd z 81 v) M := ⟨h.1.sc8 (by rw [h.2]; exact hM), by rw [rM_upd (by decide)]; exact h.2⟩
theorem LRq.sc9 {D S T z : mR} {M : Nat} (h : LRq D S T z M) (hM : M ≤ 4) {v : Int32} : LRq (upd D 9 v) S T (upd z 74 v) M := ⟨h.1.sc9 (by rw [h.2]; exact hM), by rw [rM_upd (by decide)]; exact h.2⟩
