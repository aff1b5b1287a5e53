/-! the reference, on rows: reads and writes -/
theorem ix {b a t k N : Nat} {x : Int32} (hx : x = nI (b + a * t + k)) (h : b + a * t + k < N) (hN : N < 2 ^ 31) : mIn x N ∧ x.toNatClampNeg = b + a * t + k := by
  rw [hx]
  exact ⟨jA_in h hN, jA_clamp (by omega)⟩
theorem ixn (b a t k : Nat) : nI b + nI a * nI t + nI k = nI (b + a * t + k) := by
  rw [pk_mul, nI_add, nI_add]
theorem oF0 (G : mM) (z : mR) {t : Nat} (h : t < 5) : x6_of (nI t) 0 (sr G z) = some (z (36 + 9 * t + 0)) := by
  have q := ix (b := 36) (a := 9) (t := t) (k := 0) (N := 82) (ixn 36 9 t 0) (by omega) (by decide)
  unfold x6_of
  rw [sr_247, mCk_t (show mIn ((36 : Int32) + (9 : Int32) * nI t + 0) 82 from q.1)]
  exact congrArg (fun i => some (z i)) q.2
theorem pU0 (G : mM) (z : mR) {t : Nat} (h : t < 5) (v : Int32) : x6_put (nI t) 0 v (sr G z) = some (sr G (upd z (36 + 9 * t + 0) v)) := by
  have q := ix (b := 36) (a := 9) (t := t) (k := 0) (N := 82) (ixn 36 9 t 0) (by omega) (by decide)
  unfold x6_put
  rw [mCk_t (show mIn ((36 : Int32) + (9 : Int32) * nI t + 0) 82 from q.1), mNm_e, sr_up]
  exact congrArg (fun i => some (sr G (upd z i v))) q.2
theorem oF1 (G : mM) (z : mR) {t : Nat} (h : t < 5) : x6_of (nI t) 1 (sr G z) = some (z (36 + 9 * t + 1)) := by
  have q := ix (b := 36) (a := 9) (t := t) (k := 1) (N := 82) (ixn 36 9 t 1) (by omega) (by decide)
  unfold x6_of
  rw [sr_247, mCk_t (show mIn ((36 : Int32) + (9 : Int32) * nI t + 1) 82 from q.1)]
  exact congrArg (fun i => some (z i)) q.2
theorem pU1 (G : mM) (z : mR) {t : Nat} (h : t < 5) (v : Int32) : x6_put (nI t) 1 v (sr G z) = some (sr G (upd z (36 + 9 * t + 1) v)) := by
  have q := ix (b := 36) (a := 9) (t := t) (k := 1) (N := 82) (ixn 36 9 t 1) (by omega) (by decide)
  unfold x6_put
  rw [mCk_t (show mIn ((36 : Int32) + (9 : Int32) * nI t + 1) 82 from q.1), mNm_e, sr_up]
  exact congrArg (fun i => some (sr G (upd z i v))) q.2
theorem oF2 (G : mM) (z : mR) {t : Nat} (h : t < 5) : x6_of (nI t) 2 (sr G z) = some (z (36 + 9 * t + 2)) := by
  have q := ix (b := 36) (a := 9) (t := t) (k := 2) (N := 82) (ixn 36 9 t 2) (by omega) (by decide)
  unfold x6_of
  rw [sr_247, mCk_t (show mIn ((36 : Int32) + (9 : Int32) * nI t + 2) 82 from q.1)]
  exact congrArg (fun i => some (z i)) q.2
theorem pU2 (G : mM) (z : mR) {t : Nat} (h : t < 5) (v : Int32) : x6_put (nI t) 2 v (sr G z) = some (sr G (upd z (36 + 9 * t + 2) v)) := by
  have q := ix (b := 36) (a := 9) (t := t) (k := 2) (N := 82) (ixn 36 9 t 2) (by omega) (by decide)
  unfold x6_put
  rw [mCk_t (show mIn ((36 : Int32) + (9 : Int32) * nI t + 2) 82 from q.1), mNm_e, sr_up]
  exact congrArg (fun i => some (sr G (upd z i v))) q.2
theorem oF3 (G : mM) (z : mR) {t : Nat} (h : t < 5) : x6_of (nI t) 3 (sr G z) = some (z (36 + 9 * t + 3)) := by
  have q := ix (b := 36) (a := 9) (t := t) (k := 3) (N := 82) (ixn 36 9 t 3) (by omega) (by decide)
  unfold x6_of
  rw [sr_247, mCk_t (show mIn ((36 : Int32) + (9 : Int32) * nI t + 3) 82 from q.1)]
  exact congrArg (fun i => some (z i)) q.2
theorem pU3 (G : mM) (z : mR) {t : Nat} (h : t < 5) (v : Int32) : x6_put (nI t) 3 v (sr G z) = some (sr G (upd z (36 + 9 * t + 3) v)) := by
  have q := ix (b := 36) (a := 9) (t := t) (k := 3) (N := 82) (ixn 36 9 t 3) (by omega) (by decide)
  unfold x6_put
  rw [mCk_t (show mIn ((36 : Int32) + (9 : Int32) * nI t + 3) 82 from q.1), mNm_e, sr_up]
  exact congrArg (fun i => some (sr G (upd z i v))) q.2
theorem oF4 (G : mM) (z : mR) {t : Nat} (h : t < 5) : x6_of (nI t) 4 (sr G z) = some (z (36 + 9 * t + 4)) := by
  have q := ix (b := 36) (a := 9) (t := t) (k := 4) (N := 82) (ixn 36 9 t 4) (by omega) (by decide)
  unfold x6_of
  rw [sr_247, mCk_t (show mIn ((36 : Int32) + (9 : Int32) * nI t + 4) 82 from q.1)]
  exact congrArg (fun i => some (z i)) q.2
theorem pU4 (G : mM) (z : mR) {t : Nat} (h : t < 5) (v : Int32) : x6_put (nI t) 4 v (sr G z) = some (sr G (upd z (36 + 9 * t + 4) v)) := by
  have q := ix (b := 36) (a := 9) (t := t) (k := 4) (N := 82) (ixn 36 9 t 4) (by omega) (by decide)
  unfold x6_put
  rw [mCk_t (show mIn ((36 : Int32) + (9 : Int32) * nI t + 4) 82 from q.1), mNm_e, sr_up]
  exact congrArg (fun i => some (sr G (upd z i v))) q.2
theorem oF5 (G : mM) (z : mR) {t : Nat} (h : t < 5) : x6_of (nI t) 5 (sr G z) = some (z (36 + 9 * t + 5)) := by
  have q := ix (b := 36) (a := 9) (t := t) (k := 5) (N := 82) (ixn 36 9 t 5) (by omega) (by decide)
  unfold x6_of
  rw [sr_247, mCk_t (show mIn ((36 : Int32) + (9 : Int32) * nI t + 5) 82 from q.1)]
  exact congrArg (fun i => some (z i)) q.2
theorem pU5 (G : mM) (z : mR) {t : Nat} (h : t < 5) (v : Int32) : x6_put (nI t) 5 v (sr G z) = some (sr G (upd z (36 + 9 * t + 5) v)) := by
  have q := ix (b := 36) (a := 9) (t := t) (k := 5) (N := 82) (ixn 36 9 t 5) (by omega) (by decide)
  unfold x6_put
  rw [mCk_t (show mIn ((36 : Int32) + (9 : Int32) * nI t + 5) 82 from q.1), mNm_e, sr_up]
  exact congrArg (fun i => some (sr G (upd z i v))) q.2
theorem oF6 (G : mM) (z : mR) {t : Nat} (h : t < 5) : x6_of (nI t) 6 (sr G z) = some (z (36 + 9 * t + 6)) := by
  have q := ix (b := 36) (a := 9) (t := t) (k := 6) (N := 82) (ixn 36 9 t 6) (by omega) (by decide)
  unfold x6_of
  rw [sr_247, mCk_t (show mIn ((36 : Int32) + (9 : Int32) * nI t + 6) 82 from q.1)]
  exact congrArg (fun i => some (z i)) q.2
theorem pU6 (G : mM) (z : mR) {t : Nat} (h : t < 5) (v : Int32) : x6_put (nI t) 6 v (sr G z) = some (sr G (upd z (36 + 9 * t + 6) v)) := by
  have q := ix (b := 36) (a := 9) (t := t) (k := 6) (N := 82) (ixn 36 9 t 6) (by omega) (by decide)
  unfold x6_put
  rw [mCk_t (show mIn ((36 : Int32) + (9 : Int32) * nI t + 6) 82 from q.1), mNm_e, sr_up]
  exact congrArg (fun i => some (sr G (upd z i v))) q.2
theorem oF7 (G : mM) (z : mR) {t : Nat} (h : t < 5) : x6_of (nI t) 7 (sr G z) = some (z (36 + 9 * t + 7)) := by
  have q := ix (b := 36) (a := 9) (t := t) (k := 7) (N := 82) (ixn 36 9 t 7) (by omega) (by decide)
  unfold x6_of
  rw [sr_247, mCk_t (show mIn ((36 : Int32) + (9 : Int32) * nI t + 7) 82 from q.1)]
  exact congrArg (fun i => some (z i)) q.2
theorem pU7 (G : mM) (z : mR) {t : Nat} (h : t < 5) (v : Int32) : x6_put (nI t) 7 v (sr G z) = some (sr G (upd z (36 + 9 * t + 7) v)) := by
  have q := ix (b := 36) (a := 9) (t := t) (k := 7) (N := 82) (ixn 36 9 t 7) (by omega) (by decide)
  unfold x6_put
  rw [mCk_t (show mIn ((36 : Int32) + (9 : Int32) * nI t + 7) 82 from q.1), mNm_e, sr_up]
  exact congrArg (fun i => some (sr G (upd z i v))) q.2
theorem oF8 (G : mM) (z : mR) {t : Nat} (h : t < 5) : x6_of (nI t) 8 (sr G z) = some (z (36 + 9 * t + 8)) := by
  have q := ix (b := 36) (a := 9) (t := t) (k := 8) (N := 82) (ixn 36 9 t 8) (by omega) (by decide)
  unfold x6_of
  rw [sr_247, mCk_t (show mIn ((36 : Int32) + (9 : Int32) * nI t + 8) 82 from q.1)]
  exact congrArg (fun i => some (z i)) q.2
theorem pU8 (G : mM) (z : mR) {t : Nat} (h : t < 5) (v : Int32) : x6_put (nI t) 8 v (sr G z) = some (sr G (upd z (36 + 9 * t + 8) v)) := by
  have q := ix (b := 36) (a := 9) (t := t) (k := 8) (N := 82) (ixn 36 9 t 8) (by omega) (by decide)
  unfold x6_put
  rw [mCk_t (show mIn ((36 : Int32) + (9 : Int32) * nI t + 8) 82 from q.1), mNm_e, sr_up]
  exact congrArg (fun i => some (sr G (upd z i v))) q.2
theorem sF0 (G : mM) (z : mR) {s : Nat} (h : s < 27) : x6_seg (nI s) 0 (sr G z) = some (z (3 * s)) := by
  have q := ix (b := 0) (a := 3) (t := s) (k := 0) (N := 82) (ixn 0 3 s 0) (by omega) (by decide)
  unfold x6_seg
  rw [sr_247, mCk_t (show mIn ((0 : Int32) + (3 : Int32) * nI s + 0) 82 from q.1)]
  exact congrArg (fun i => some (z i)) (q.2.trans (by omega))
theorem sF1 (G : mM) (z : mR) {s : Nat} (h : s < 27) : x6_seg (nI s) 1 (sr G z) = some (z (3 * s + 1)) := by
  have q := ix (b := 0) (a := 3) (t := s) (k := 1) (N := 82) (ixn 0 3 s 1) (by omega) (by decide)
  unfold x6_seg
  rw [sr_247, mCk_t (show mIn ((0 : Int32) + (3 : Int32) * nI s + 1) 82 from q.1)]
  exact congrArg (fun i => some (z i)) (q.2.trans (by omega))
theorem sF2 (G : mM) (z : mR) {s : Nat} (h : s < 27) : x6_seg (nI s) 2 (sr G z) = some (z (3 * s + 2)) := by
  have q := ix (b := 0) (a := 3) (t := s) (k := 2) (N := 82) (ixn 0 3 s 2) (by omega) (by decide)
  unfold x6_seg
  rw [sr_247, mCk_t (show mIn ((0 : Int32) + (3 : Int32) * nI s + 2) 82 from q.1)]
  exact congrArg (fun i => some (z i)) (q.2.trans (by omega))
theorem oT0 (G : mM) (z : mR) : x6_other 0 (sr G z) = some (z 75) := by
  unfold x6_other
  rw [sr_247, mCk_t (show mIn ((75 : Int32) + 0) 82 by decide)]
  exact congrArg (fun i => some (z i)) (show ((75 : Int32) + 0).toNatClampNeg = 75 by decide)
theorem oT1 (G : mM) (z : mR) : x6_other 1 (sr G z) = some (z 76) := by
  unfold x6_other
  rw [sr_247, mCk_t (show mIn ((75 : Int32) + 1) 82 by decide)]
  exact congrArg (fun i => some (z i)) (show ((75 : Int32) + 1).toNatClampNeg = 76 by decide)
theorem oT2 (G : mM) (z : mR) : x6_other 2 (sr G z) = some (z 77) := by
  unfold x6_other
  rw [sr_247, mCk_t (show mIn ((75 : Int32) + 2) 82 by decide)]
  exact congrArg (fun i => some (z i)) (show ((75 : Int32) + 2).toNatClampNeg = 77 by decide)
theorem oT3 (G : mM) (z : mR) : x6_other 3 (sr G z) = some (z 78) := by
  unfold x6_other
  rw [sr_247, mCk_t (show mIn ((75 : Int32) + 3) 82 by decide)]
  exact congrArg (fun i => some (z i)) (show ((75 : Int32) + 3).toNatClampNeg = 78 by decide)
theorem oT4 (G : mM) (z : mR) : x6_other 4 (sr G z) = some (z 79) := by
  unfold x6_other
  rw [sr_247, mCk_t (show mIn ((75 : Int32) + 4) 82 by decide)]
  exact congrArg (fun i => some (z i)) (show ((75 : Int32) + 4).toNatClampNeg = 79 by decide)
theorem oT5 (G : mM) (z : mR) : x6_other 5 (sr G z) = some (z 80) := by
  unfold x6_other
  rw [sr_247, mCk_t (show mIn ((75 : Int32) + 5) 82 by decide)]
  exact congrArg (fun i => some (z i)) (show ((75 : Int32) + 5).toNatClampNeg = 80 by decide)
theorem oT6 (G : mM) (z : mR) : x6_other 6 (sr G z) = some (z 81) := by
  unfold x6_other
  rw [sr_247, mCk_t (show mIn ((75 : Int32) + 6) 82 by decide)]
  exact congrArg (fun i => some (z i)) (show ((75 : Int32) + 6).toNatClampNeg = 81 by decide)
