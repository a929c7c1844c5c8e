/-! the 'to' of an act line -/
theorem sm_upd {f g : Nat → Nat} {y v : Nat} (h0 : f y = 0) (h1 : g y = v) (h : ∀ i, i ≠ y → g i = f i) : ∀ n, y < n → sm n g = sm n f + v
  | 0, hn => absurd hn (by omega)
  | n + 1, hn => by
    show sm n g + g n = sm n f + f n + v
    by_cases c : y = n
    · rw [← c, h0, h1, c, sm_congr (fun i hi => h i (by omega))]
      omega
    · rw [sm_upd h0 h1 h n (by omega), h n (by omega)]
      omega
/-- the row r while its percents are told: their sum so far is S -/
def AP (Q : Nat → Int32) (r S : Nat) : Prop := sm (cN Q) (cP Q r) = S ∧ cz (cP Q r) 6 = cT Q r ∧ (∀ k, k < cT Q r → cO Q r k < cN Q ∧ 1 ≤ cP Q r (cO Q r k)) ∧ sm (cT Q r) (fun k => cP Q r (cO Q r k)) = S
theorem cP_eq {Q : Nat → Int32} {r y : Nat} (hr : r < 18) (hy : y < 6) : cP Q r y = pn Q (86 + (r * 6 + y)) := by
  unfold cP
  rw [if_pos ⟨hr, hy⟩, Nat.add_assoc]
theorem cO_eq {Q : Nat → Int32} {r y : Nat} (hr : r < 18) (hy : y < 6) : cO Q r y = pn Q (212 + (r * 6 + y)) := by
  unfold cO
  rw [if_pos ⟨hr, hy⟩, Nat.add_assoc]
theorem cA_eq {Q : Nat → Int32} {r b : Nat} (hr : r < 18) (hb : b < 3) : cA Q r b = pn Q (32 + (r * 3 + b)) := by
  unfold cA
  rw [if_pos ⟨hr, hb⟩, Nat.add_assoc]
theorem cP_hi {Q : Nat → Int32} {r y : Nat} (hy : 6 ≤ y) : cP Q r y = 0 := by
  unfold cP
  rw [if_neg (by omega)]
theorem rowT_cP {Q : Nat → Int32} {r y t v i : Nat} (hr : r < 18) (hy : y < 6) (ht : t < 6) (hv : v < 2 ^ 31) : cP (rowT Q r y t v) r i = if i = y then v else cP Q r i := by
  by_cases c : i < 6
  · rw [cP_eq hr c, cP_eq hr c]
    by_cases d : i = y
    · rw [if_pos d, d]
      refine pn_n ?_ hv
      unfold rowT
      rw [upd_ne (by omega), upd_ne (by omega), upd_eq]
    · rw [if_neg d]
      exact pn_c (rowT_ne (by omega) (by omega) (by omega))
  · rw [cP_hi (by omega), if_neg (by omega), cP_hi (by omega)]
theorem rowT_cO {Q : Nat → Int32} {r y t v k : Nat} (hr : r < 18) (hy : y < 6) (ht : t < 6) (hk : k < 6) : cO (rowT Q r y t v) r k = if k = t then y else cO Q r k := by
  rw [cO_eq hr hk, cO_eq hr hk]
  by_cases d : k = t
  · rw [if_pos d, d]
    refine pn_n ?_ (by omega)
    unfold rowT
    rw [upd_ne (by omega), upd_eq]
  · rw [if_neg d]
    exact pn_c (rowT_ne (by omega) (by omega) (by omega))
theorem rowT_cN {Q : Nat → Int32} {r y t v : Nat} : cN (rowT Q r y t v) = cN Q := pn_c (rowT_ne (by omega) (by omega) (by omega))
theorem AP.tell {Q : Nat → Int32} {r y v S : Nat} (h : AP Q r S) (hV : VW Q) (hr : r < 18) (hy : y < cN Q) (hz : cP Q r y = 0) (hv1 : 1 ≤ v) (hv : v ≤ 100) : AP (rowT Q r y (cT Q r) v) r (S + v) := by
  obtain ⟨h1, h2, h3, h4⟩ := h
  have hN := hV.N.2
  have lt : cT Q r < 6 := by rw [← h2]; exact cz_lt hz 6 (by omega)
  have pP : ∀ i, cP (rowT Q r y (cT Q r) v) r i = if i = y then v else cP Q r i := fun i => rowT_cP hr (by omega) lt (by omega)
  have pO : ∀ k, k < 6 → cO (rowT Q r y (cT Q r) v) r k = if k = cT Q r then y else cO Q r k := fun k hk => rowT_cO hr (by omega) lt hk
  have eT : cT (rowT Q r y (cT Q r) v) r = cT Q r + 1 := by rw [rowT_cT hr (by omega) lt, if_pos rfl]
  have ne : ∀ k, k < cT Q r → cO Q r k ≠ y := fun k hk z => by
    have := (h3 k hk).2
    rw [z, hz] at this
    omega
  refine ⟨?_, ?_, fun k hk => ?_, ?_⟩
  · rw [rowT_cN, ← h1]
    exact sm_upd (y := y) hz (by rw [pP, if_pos rfl]) (fun i hi => by rw [pP, if_neg hi]) _ hy
  · have u := cz_upd (f := cP Q r) (g := cP (rowT Q r y (cT Q r) v) r) (y := y) hz (by rw [pP, if_pos rfl]; omega) (fun i hi => by rw [pP, if_neg hi]) 6 (by omega)
    rw [u, eT, h2]
  · rw [eT] at hk
    rw [rowT_cN, pO k (by omega)]
    by_cases c : k = cT Q r
    · rw [if_pos c, pP, if_pos rfl]
      exact ⟨hy, hv1⟩
    · rw [if_neg c, pP, if_neg (ne k (by omega))]
      exact h3 k (by omega)
  · rw [eT]
    show sm (cT Q r) (fun k => cP _ r (cO _ r k)) + cP _ r (cO _ r (cT Q r)) = S + v
    rw [pO _ lt, if_pos rfl, pP, if_pos rfl, ← h4]
    refine congrArg (· + v) (sm_congr (fun k hk => ?_))
    show cP _ r (cO _ r k) = _
    rw [pO k (by omega), if_neg (by omega), pP, if_neg (ne k hk)]
theorem VW.tell {Q : Nat → Int32} {r y t v : Nat} (h : VW Q) (hr : r < 18) (hy : y < 6) (ht : t < 6) (hv : v ≤ 100) : VW (rowT Q r y t v) := by
  unfold rowT
  exact ((h.put (by omega) (by rw [mxP (by omega)]; exact hv)).put (by omega) (by rw [mxO (by omega)]; omega)).put (by omega) (by rw [mxT hr]; omega)
