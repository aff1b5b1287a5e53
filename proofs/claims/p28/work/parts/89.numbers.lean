/-! THE CELLS' NUMBERS and the order of their making -/
def crn (c : Nat) : Nat := if c < 40 then c + 3 else if c < 200 then c + 5 else if c < 240 then c + 6 else if c = 240 then 0 else if c = 241 then 1 else if c = 242 then 2 else if c = 243 then 43 else if c = 244 then 44 else 205
def cnu (r : Nat) : Nat := if r = 0 then 240 else if r = 1 then 241 else if r = 2 then 242 else if r < 43 then r - 3 else if r = 43 then 243 else if r = 44 then 244 else if r < 205 then r - 5 else if r = 205 then 245 else r - 6
theorem crn_all : ∀ c : Fin 246, cnu (crn c.1) = c.1 ∧ crn c.1 < 246 := by decide +kernel
theorem cnu_all : ∀ r : Fin 246, crn (cnu r.1) = r.1 ∧ cnu r.1 < 246 := by decide +kernel
theorem crn_inj {a b : Nat} (ha : a < 246) (hb : b < 246) (h : crn a = crn b) : a = b := by
  have h1 := (crn_all ⟨a, ha⟩).1
  have h2 := (crn_all ⟨b, hb⟩).1
  dsimp only at h1 h2
  rw [← h1, ← h2, h]
def eOf (D : va_G) (Y : Nat → ClassId) (ad : Nat → Nat) (I : List Nat) : mE := (D, Y, fun c => ad (crn c), I)
theorem eOf_all {D : va_G} {Y : Nat → ClassId} {A : Nat → Prop} {N : Nat} {ad : Nat → Nat} {cn : Nat → va_E} {H : Heap} {I : List Nat} (hI : I.Nodup) (hc : ∀ c ∈ I, crn c < N ∧ c < 246) (O : cOk D A N ad cn H) : mJ (eOf D Y ad I) ∧ (∀ q, mA (eOf D Y ad I) q → A q) ∧ ∀ r, r < N → (∀ c ∈ I, crn c ≠ r) → ¬ mA (eOf D Y ad I) (ad r) := by
  refine ⟨?_, ?_, ?_⟩
  · unfold mJ List.Nodup
    rw [List.pairwise_map]
    exact List.Pairwise.imp_of_mem (fun {a b} ha hb hne he => hne (crn_inj (hc a ha).2 (hc b hb).2 (O.2.1 _ _ (hc a ha).1 (hc b hb).1 he))) hI
  · rintro q ⟨c, h1, rfl⟩
    exact O.2.2 _ (hc c h1).1
  · rintro r hr hn ⟨c, h1, h2⟩
    exact hn c h1 (O.2.1 _ _ (hc c h1).1 hr h2)
theorem mP_of {E : mE} {G : mM} {H : Heap} (K : ∀ c ∈ mI E, va_at E.1 vwCl (mad E c, mcell E G c) H) : mP E G H := fun k q hk => by
  obtain ⟨c, hc, rfl⟩ := mws_of hk
  exact K c (List.mem_of_getElem? hc)
theorem mP_at {E : mE} {G : mM} {H : Heap} (h : mP E G H) {c : Nat} (hc : c ∈ mI E) : va_at E.1 vwCl (mad E c, mcell E G c) H := by
  obtain ⟨i, hi⟩ := List.getElem?_of_mem hc
  exact h i _ (mws_at hi)
theorem mP_keep {E : mE} {G : mM} {H H1 : Heap} (h : mP E G H) (hk : ∀ q : Nat, q < H.size → H1[q]? = H[q]?) : mP E G H1 := fun k q hq => (h k q hq).kept (hk _ (h k q hq).lt)
/-- a State's new cell is the cell of the memory -/
theorem sc_mc {D : va_G} {E : mE} {G : mM} {u : Nat → Nat} {x b r : Nat} {H : Heap} (hb : b % 20 = 0) (hr : r < 20) (hb2 : b + r < 240) (hG3 : r = 3 → ∀ k, k < 3 → mStat 0 k = G (b + 3) k) (hG0 : r ≠ 3 → ∀ k, G (b + r) k = 0) (had : ∀ k, k < 20 → u k = mad E (b + k)) (h : va_at D vwCl (x, scell (mY E) u r) H) : va_at D vwCl (x, mcell E G (b + r)) H := by
  unfold scell at h
  unfold mcell
  rw [if_pos hb2]
  by_cases e0 : r = 0
  · subst e0
    rw [if_pos rfl, had 1 (by decide), had 2 (by decide), had 3 (by decide)] at h
    rw [if_pos (by omega)]
    have e : f_St (mad E) G (b + 0) = vSt0 (.ref (mad E (b + 1))) (.ref (mad E (b + 2))) (.ref (mad E (b + 3))) := by
      unfold f_St
      simp only [hG0 (by decide)]
    rw [e]; exact h
  · rw [if_neg e0] at h
    rw [if_neg (show ¬ (b + r) % 20 = 0 by omega)]
    by_cases e1 : r = 1
    · subst e1
      rw [if_pos rfl] at h
      rw [if_pos (by omega)]
      exact rwq_eq (fun j hj => by rw [had (4 + j) (by omega), show b + (4 + j) = b + 1 + 3 + j by omega]) h
    · rw [if_neg e1] at h
      rw [if_neg (show ¬ (b + r) % 20 = 1 by omega)]
      by_cases e2 : r = 2
      · subst e2
        rw [if_pos rfl] at h
        rw [if_pos (by omega)]
        exact rwq_eq (fun j hj => by rw [had (16 + j) (by omega), show b + (16 + j) = b + 2 + 14 + j by omega]) h
      · rw [if_neg e2] at h
        rw [if_neg (show ¬ (b + r) % 20 = 2 by omega)]
        by_cases e3 : r = 3
        · subst e3
          rw [if_pos rfl] at h
          rw [if_pos (by omega)]
          exact rwi_eq (hG3 rfl) h
        · rw [if_neg e3] at h
          rw [if_neg (show ¬ (b + r) % 20 = 3 by omega)]
          by_cases e4 : r < 16
          · rw [if_pos e4] at h
            rw [if_pos (by omega)]
            have e : f_Seg G (b + r) = vSeg0 := by
              unfold f_Seg
              simp only [hG0 e3]
            rw [e]; exact h
          · rw [if_neg e4] at h
            rw [if_neg (by omega)]
            have e : f_Tr G (b + r) = vTr0 := by
              unfold f_Tr
              simp only [hG0 e3]
            rw [e]; exact h
/-- the same cell of the first State, with other addresses elsewhere -/
theorem mc_E {D : va_G} {E E' : mE} {G : mM} {x c : Nat} {H : Heap} (hY : mY E = mY E') (hc : c < 20) (hm : ∀ k, k < 20 → mad E k = mad E' k) (h : va_at D vwCl (x, mcell E G c) H) : va_at D vwCl (x, mcell E' G c) H := by
  unfold mcell at h ⊢
  rw [if_pos (by omega)] at h ⊢
  by_cases e0 : c % 20 = 0
  · rw [if_pos e0] at h ⊢
    have e : f_St (mad E) G c = f_St (mad E') G c := by
      unfold f_St
      rw [hm (c + 1) (by omega), hm (c + 2) (by omega), hm (c + 3) (by omega)]
    rw [← e]; exact h
  · rw [if_neg e0] at h ⊢
    by_cases e1 : c % 20 = 1
    · rw [if_pos e1] at h ⊢
      rw [← hY]
      exact rwq_eq (fun j hj => by rw [hm (c + 3 + j) (by omega)]) h
    · rw [if_neg e1] at h ⊢
      by_cases e2 : c % 20 = 2
      · rw [if_pos e2] at h ⊢
        rw [← hY]
        exact rwq_eq (fun j hj => by rw [hm (c + 14 + j) (by omega)]) h
      · rw [if_neg e2] at h ⊢
        rw [hY] at h
        exact h
def pcn (Y : Nat → ClassId) (i : Nat) (c0 : Nat → va_E) (ad : Nat → Nat) (r : Nat) : va_E :=
  if r < 205 then c0 r
  else if r = 205 then rwq (Y 3) 2 (fun q => if q < i then some (ad (206 + 20 * q)) else none)
  else scell Y (fun k => ad (206 + 20 * ((r - 206) / 20) + k)) ((r - 206) % 20)
set_option maxRecDepth 100000 in
theorem pcn_step {D : va_G} {Y : Nat → ClassId} {A : Nat → Prop} {i : Nat} {c0 : Nat → va_E} {ad u : Nat → Nat} {H : Heap} (h : cOk D A (206 + 20 * i + 20) (stAd ad (206 + 20 * i) u) (fun r => if r = 205 then rwq (Y 3) 2 (va_up (fun q => if q < i then some (ad (206 + 20 * q)) else none) i (some (u 0))) else if r < 206 + 20 * i then pcn Y i c0 ad r else scell Y u (r - (206 + 20 * i))) H) : cOk D A (206 + 20 * (i + 1)) (stAd ad (206 + 20 * i) u) (pcn Y (i + 1) c0 (stAd ad (206 + 20 * i) u)) H := by
  have lo : ∀ k, k < 206 + 20 * i → stAd ad (206 + 20 * i) u k = ad k := fun k hk => if_pos hk
  have hi : ∀ k, stAd ad (206 + 20 * i) u (206 + 20 * i + k) = u k := fun k => by
    unfold stAd
    rw [if_neg (by omega), Nat.add_sub_cancel_left]
  rw [show 206 + 20 * (i + 1) = 206 + 20 * i + 20 by omega]
  refine h.cn (fun _ _ => rfl) (fun r hr z => ?_)
  unfold pcn
  by_cases e0 : r < 205
  · rw [if_neg (by omega), if_pos (by omega)] at z
    unfold pcn at z
    rw [if_pos e0] at z ⊢
    exact z
  · rw [if_neg e0]
    by_cases e1 : r = 205
    · subst e1
      rw [if_pos rfl] at z ⊢
      refine rwq_eq (fun j hj => ?_) z
      unfold va_up
      by_cases e : j = i
      · subst e
        rw [if_pos rfl, if_pos (by omega)]
        have := hi 0
        rw [Nat.add_zero] at this
        rw [this]
      · rw [if_neg e]
        show (if j < i then some (ad (206 + 20 * j)) else none) = _
        by_cases e2 : j < i
        · rw [if_pos e2, if_pos (by omega), lo _ (by omega)]
        · rw [if_neg e2, if_neg (by omega)]
    · rw [if_neg e1] at z ⊢
      by_cases e2 : r < 206 + 20 * i
      · rw [if_pos e2] at z
        unfold pcn at z
        rw [if_neg e0, if_neg e1] at z
        exact scell_eq (fun k hk => by rw [lo _ (by omega)]) z
      · rw [if_neg e2] at z
        rw [show (r - 206) % 20 = r - (206 + 20 * i) by omega, show (r - 206) / 20 = i by omega]
        exact scell_eq (fun k _ => (hi k).symm) z
abbrev i22 : List Nat := 241 :: 242 :: List.range 20
theorem crn_lo {c : Nat} (h : c < 40) : crn c = c + 3 := if_pos h
theorem crn_mid {c : Nat} (h1 : 40 ≤ c) (h2 : c < 200) : crn c = c + 5 := by unfold crn; rw [if_neg (by omega), if_pos h2]
theorem crn_hi {c : Nat} (h1 : 200 ≤ c) (h2 : c < 240) : crn c = c + 6 := by unfold crn; rw [if_neg (by omega), if_neg (by omega), if_pos h2]
theorem gI_3 {c k : Nat} (h : c < 240) (h2 : c % 20 = 3) : gI c k = mStat 0 k := by
  unfold gI
  rw [if_neg (by omega), if_pos ⟨h, h2⟩]
theorem gI_244 {k : Nat} : gI 244 k = nI (40 + 20 * k) := if_pos rfl
set_option maxHeartbeats 1000000 in
set_option maxRecDepth 100000 in
/-- all that the constructor leaves, cell by cell -/
theorem fin_K {D : va_G} {Y : Nat → ClassId} {A : Nat → Prop} {adF ad2 u2 uh : Nat → Nat} {G : mM} {f5 : List Value} {H : Heap} (O : cOk D A 246 adF (pcn Y 2 (bcn f5 (fun r => if r < 43 then (if r < 23 then mcell (eOf D Y ad2 i22) G (cnu r) else scell Y u2 (r - 23)) else hcn Y 8 uh (r - 43))) adF) H) (h5 : f5 = [.ref (adF 1), .ref (adF 3), .ref (adF 23), .ref (adF 43), .ref (adF 205), .int 0]) (l1 : ∀ r, r < 23 → ad2 r = adF r) (l2 : ∀ k, k < 20 → u2 k = adF (23 + k)) (l3 : ∀ k, k < 162 → uh k = adF (43 + k)) (hfr : ∀ d, 20 ≤ d → d ≠ 241 → d ≠ 242 → ∀ j, G d j = gI d j) : ∀ c, c < 246 → va_at D vwCl (adF (crn c), mcell (eOf D Y adF (List.range 246)) G c) H := by
  have hst : ∀ (b r : Nat) (u : Nat → Nat), b % 20 = 0 → 20 ≤ b → r < 20 → b + r < 240 → (∀ k, k < 20 → u k = adF (crn (b + k))) → va_at D vwCl (adF (crn (b + r)), scell Y u r) H → va_at D vwCl (adF (crn (b + r)), mcell (eOf D Y adF (List.range 246)) G (b + r)) H := fun b r u h1 h2 h3 h4 h6 h7 => by
    refine sc_mc h1 h3 h4 (fun e k _ => ?_) (fun e k => ?_) h6 h7
    · rw [hfr _ (by omega) (by omega) (by omega), gI_3 (by omega) (by omega)]
    · rw [hfr _ (by omega) (by omega) (by omega), gI_0 (by omega) (by omega)]
  intro c hc
  have z := O.1 (crn c) (crn_all ⟨c, hc⟩).2
  by_cases c1 : c < 20
  · rw [crn_lo (by omega)] at z ⊢
    unfold pcn bcn at z
    rw [if_pos (by omega), if_neg (by omega)] at z
    dsimp only at z
    rw [if_pos (by omega), if_pos (by omega)] at z
    rw [show cnu (c + 3) = c by have := (crn_all ⟨c, hc⟩).1; rwa [show crn c = c + 3 from crn_lo (by omega)] at this] at z
    refine mc_E (E := eOf D Y ad2 i22) rfl c1 (fun k hk => ?_) z
    show ad2 (crn k) = adF (crn k)
    exact l1 _ (by rw [crn_lo (by omega)]; omega)
  · by_cases c2 : c < 40
    · have e : 20 + (c - 20) = c := by omega
      have := hst 20 (c - 20) u2 (by decide) (by decide) (by omega) (by omega) (fun k hk => by rw [l2 k hk, crn_lo (by omega)]; congr 1; omega)
      rw [e] at this
      refine this ?_
      rw [crn_lo (by omega)] at z ⊢
      unfold pcn bcn at z
      rw [if_pos (by omega), if_neg (by omega)] at z
      dsimp only at z
      rw [if_pos (by omega), if_neg (by omega), show c + 3 - 23 = c - 20 by omega] at z
      exact z
    · by_cases c3 : c < 200
      · have e : 20 * (c / 20) + c % 20 = c := Nat.div_add_mod c 20
        have := hst (20 * (c / 20)) (c % 20) (fun k => uh (2 + 20 * ((c - 40) / 20) + k)) (by omega) (by omega) (by omega) (by omega) (fun k hk => by
          show uh (2 + 20 * ((c - 40) / 20) + k) = _
          rw [l3 _ (by omega), crn_mid (by omega) (by omega)]; congr 1; omega)
        rw [e] at this
        refine this ?_
        rw [crn_mid (by omega) c3] at z ⊢
        unfold pcn bcn at z
        rw [if_pos (by omega), if_neg (by omega)] at z
        dsimp only at z
        rw [if_neg (by omega)] at z
        unfold hcn at z
        rw [if_neg (by omega), if_neg (by omega), show c + 5 - 43 - 2 = c - 40 by omega, show (c - 40) % 20 = c % 20 by omega] at z
        exact z
      · by_cases c4 : c < 240
        · have e : 20 * (c / 20) + c % 20 = c := Nat.div_add_mod c 20
          have := hst (20 * (c / 20)) (c % 20) (fun k => adF (206 + 20 * ((c - 200) / 20) + k)) (by omega) (by omega) (by omega) (by omega) (fun k hk => by
            show adF (206 + 20 * ((c - 200) / 20) + k) = _
            rw [crn_hi (by omega) (by omega)]; congr 1; omega)
          rw [e] at this
          refine this ?_
          rw [crn_hi (by omega) c4] at z ⊢
          unfold pcn at z
          rw [if_neg (by omega), if_neg (by omega), show c + 6 - 206 = c - 200 by omega, show (c - 200) % 20 = c % 20 by omega] at z
          exact z
        · rcases (show c = 240 ∨ c = 241 ∨ c = 242 ∨ c = 243 ∨ c = 244 ∨ c = 245 by omega) with rfl | rfl | rfl | rfl | rfl | rfl
          · have e : mcell (eOf D Y adF (List.range 246)) G 240 = .inr (5, f5) := by
              rw [h5]
              show Sum.inr (5, f_Ra _ G 240) = _
              unfold f_Ra
              rw [hfr 240 (by decide) (by decide) (by decide), gI_0 (by decide) (by decide)]
              rfl
            rw [e]; exact z
          · have e : mcell (eOf D Y adF (List.range 246)) G 241 = mcell (eOf D Y ad2 i22) G 241 := by
              show Sum.inr (1, [Value.ref (adF 2), .int (G 241 1)]) = Sum.inr (1, [Value.ref (ad2 2), .int (G 241 1)])
              rw [l1 2 (by decide)]
            rw [e]; exact z
          · exact z
          · have e : mcell (eOf D Y adF (List.range 246)) G 243 = .inr (0, [.ref (uh 1), .int 0]) := by
              rw [l3 1 (by decide)]
              show Sum.inr (0, f_Hi _ G 243) = _
              unfold f_Hi
              rw [hfr 243 (by decide) (by decide) (by decide), gI_0 (by decide) (by decide)]
              rfl
            rw [e]; exact z
          · show va_at D vwCl (adF 44, .inl (Y 3, 8, .inr (.inr (.inr (.inr (fun q => some (adF (crn (G 244 q).toNatClampNeg)))))))) H
            have z : va_at D vwCl (adF 44, rwq (Y 3) 8 (fun q => if q < 8 then some (uh (2 + 20 * q)) else none)) H := z
            refine rwq_eq (fun j hj => ?_) z
            rw [if_pos hj, l3 _ (by omega), hfr 244 (by decide) (by decide) (by decide), gI_244, nI_clamp (by omega), crn_mid (by omega) (by omega)]
            congr 2
            omega
          · show va_at D vwCl (adF 205, .inl (Y 3, 2, .inr (.inr (.inr (.inr (fun q => some (adF (crn (200 + 20 * q)))))))) ) H
            have z : va_at D vwCl (adF 205, rwq (Y 3) 2 (fun q => if q < 2 then some (adF (206 + 20 * q)) else none)) H := z
            refine rwq_eq (fun j hj => ?_) z
            rw [if_pos hj, crn_hi (by omega) (by omega)]
            congr 2
            omega
