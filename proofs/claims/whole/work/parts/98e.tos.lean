/-! the 'to' of an act line -/
theorem sm_upd {f g : Nat → Nat} {y v : Nat} (h0 : f y = 0) (h1 : g y = v) (h : ∀ i, i ≠ y → g i = f i) : ∀ n, y < n → sm n g = sm n f + v
  | 0, hn => absurd hn (by omega)
  | n + 1, hn => by
    show sm n g + g n = sm n f + f n + v
    by_cases c : y = n
    · rw [← c, h0, h1, c, sm_congr (fun i hi => h i (by omega))]
      omega
    · rw [sm_upd h0 h1 h n (by omega), h n (by omega)]
      omega
/-- the row r while its percents are told: their sum so far is S -/
def AP (Q : Nat → Int32) (r S : Nat) : Prop := sm (cN Q) (cP Q r) = S ∧ cz (cP Q r) 6 = cT Q r ∧ (∀ k, k < cT Q r → cO Q r k < cN Q ∧ 1 ≤ cP Q r (cO Q r k)) ∧ sm (cT Q r) (fun k => cP Q r (cO Q r k)) = S
theorem cP_eq {Q : Nat → Int32} {r y : Nat} (hr : r < 18) (hy : y < 6) : cP Q r y = pn Q (86 + (r * 6 + y)) := by
  unfold cP
  rw [if_pos ⟨hr, hy⟩, Nat.add_assoc]
theorem cO_eq {Q : Nat → Int32} {r y : Nat} (hr : r < 18) (hy : y < 6) : cO Q r y = pn Q (212 + (r * 6 + y)) := by
  unfold cO
  rw [if_pos ⟨hr, hy⟩, Nat.add_assoc]
theorem cA_eq {Q : Nat → Int32} {r b : Nat} (hr : r < 18) (hb : b < 3) : cA Q r b = pn Q (32 + (r * 3 + b)) := by
  unfold cA
  rw [if_pos ⟨hr, hb⟩, Nat.add_assoc]
theorem cP_hi {Q : Nat → Int32} {r y : Nat} (hy : 6 ≤ y) : cP Q r y = 0 := by
  unfold cP
  rw [if_neg (by omega)]
theorem rowT_cP {Q : Nat → Int32} {r y t v i : Nat} (hr : r < 18) (hy : y < 6) (ht : t < 6) (hv : v < 2 ^ 31) : cP (rowT Q r y t v) r i = if i = y then v else cP Q r i := by
  by_cases c : i < 6
  · rw [cP_eq hr c, cP_eq hr c]
    by_cases d : i = y
    · rw [if_pos d, d]
      refine pn_n ?_ hv
      unfold rowT
      rw [upd_ne (by omega), upd_ne (by omega), upd_eq]
    · rw [if_neg d]
      exact pn_c (rowT_ne (by omega) (by omega) (by omega))
  · rw [cP_hi (by omega), if_neg (by omega), cP_hi (by omega)]
theorem rowT_cO {Q : Nat → Int32} {r y t v k : Nat} (hr : r < 18) (hy : y < 6) (ht : t < 6) (hk : k < 6) : cO (rowT Q r y t v) r k = if k = t then y else cO Q r k := by
  rw [cO_eq hr hk, cO_eq hr hk]
  by_cases d : k = t
  · rw [if_pos d, d]
    refine pn_n ?_ (by omega)
    unfold rowT
    rw [upd_ne (by omega), upd_eq]
  · rw [if_neg d]
    exact pn_c (rowT_ne (by omega) (by omega) (by omega))
theorem rowT_cN {Q : Nat → Int32} {r y t v : Nat} : cN (rowT Q r y t v) = cN Q := pn_c (rowT_ne (by omega) (by omega) (by omega))
theorem AP.tell {Q : Nat → Int32} {r y v S : Nat} (h : AP Q r S) (hV : VW Q) (hr : r < 18) (hy : y < cN Q) (hz : cP Q r y = 0) (hv1 : 1 ≤ v) (hv : v ≤ 100) : AP (rowT Q r y (cT Q r) v) r (S + v) := by
  obtain ⟨h1, h2, h3, h4⟩ := h
  have hN := hV.N.2
  have lt : cT Q r < 6 := by rw [← h2]; exact cz_lt hz 6 (by omega)
  have pP : ∀ i, cP (rowT Q r y (cT Q r) v) r i = if i = y then v else cP Q r i := fun i => rowT_cP hr (by omega) lt (by omega)
  have pO : ∀ k, k < 6 → cO (rowT Q r y (cT Q r) v) r k = if k = cT Q r then y else cO Q r k := fun k hk => rowT_cO hr (by omega) lt hk
  have eT : cT (rowT Q r y (cT Q r) v) r = cT Q r + 1 := by rw [rowT_cT hr (by omega) lt, if_pos rfl]
  have ne : ∀ k, k < cT Q r → cO Q r k ≠ y := fun k hk z => by
    have := (h3 k hk).2
    rw [z, hz] at this
    omega
  refine ⟨?_, ?_, fun k hk => ?_, ?_⟩
  · rw [rowT_cN, ← h1]
    exact sm_upd (y := y) hz (by rw [pP, if_pos rfl]) (fun i hi => by rw [pP, if_neg hi]) _ hy
  · have u := cz_upd (f := cP Q r) (g := cP (rowT Q r y (cT Q r) v) r) (y := y) hz (by rw [pP, if_pos rfl]; omega) (fun i hi => by rw [pP, if_neg hi]) 6 (by omega)
    rw [u, eT, h2]
  · rw [eT] at hk
    rw [rowT_cN, pO k (by omega)]
    by_cases c : k = cT Q r
    · rw [if_pos c, pP, if_pos rfl]
      exact ⟨hy, hv1⟩
    · rw [if_neg c, pP, if_neg (ne k (by omega))]
      exact h3 k (by omega)
  · rw [eT]
    show sm (cT Q r) (fun k => cP _ r (cO _ r k)) + cP _ r (cO _ r (cT Q r)) = S + v
    rw [pO _ lt, if_pos rfl, pP, if_pos rfl, ← h4]
    refine congrArg (· + v) (sm_congr (fun k hk => ?_))
    show cP _ r (cO _ r k) = _
    rw [pO k (by omega), if_neg (by omega), pP, if_neg (ne k hk)]
theorem VW.tell {Q : Nat → Int32} {r y t v : Nat} (h : VW Q) (hr : r < 18) (hy : y < 6) (ht : t < 6) (hv : v ≤ 100) : VW (rowT Q r y t v) := by
  unfold rowT
  exact ((h.put (by omega) (by rw [mxP (by omega)]; exact hv)).put (by omega) (by rw [mxO (by omega)]; omega)).put (by omega) (by rw [mxT hr]; omega)
theorem tos_all {Z : Nat} {b : Nat → Nat} {n r : Nat} (hZ : 4000 < Z) (hr : r < 18) {v3 t10 : Int32} (hv : (3 : Int32) * v3 + t10 = nI r) (k0 : Int32 → Mem → Option (Int32 × Mem)) : ∀ d x S e (Q : Nat → Int32) (Mc Mr : Mem), x + d = 6 → cT Q r = x → AP Q r S → S ≤ 100 → VW Q → 1 ≤ cN Q → GCR b n e Q Mc Mr →
    (∃ e' Q' S' Mc' Mr', (∀ m, d < m → f_X4_parsePercents_L5 Z (nI r) k0 (kU Z) m (nI (100 - S)) (nI x) Mc = k0 (nI (100 - S')) Mc') ∧ (∀ m k, d + 1 < m → f_X12_actLine_L142 Z v3 t10 k m (nI S) Mr = k (nI S') Mr') ∧ GCR b n e' Q' Mc' Mr' ∧ VW Q' ∧ AP Q' r S' ∧ S' ≤ 100 ∧ (∀ i, (i < 86 + r * 6 ∨ 92 + r * 6 ≤ i) → (i < 212 + r * 6 ∨ 218 + r * 6 ≤ i) → i ≠ 194 + r → Q' i = Q i) ∧ e ≤ e' ∧ fr lP Mc Mc' ∧ fQ Mr Mr') ∨
    (∃ c p Mc' Mr', (∀ m, d < m → f_X4_parsePercents_L5 Z (nI r) k0 (kU Z) m (nI (100 - S)) (nI x) Mc = some (0, Mc')) ∧ (∀ m k, d + 1 < m → ∃ w, f_X12_actLine_L142 Z v3 t10 k m (nI S) Mr = k w Mr') ∧ erC c p Mc' ∧ erR c p Mr' ∧ fr lP Mc Mc' ∧ fQ Mr Mr')
  | d, x, S, e, Q, Mc, Mr, hd, hx, hA, hS, hV, hN1, h => by
    have s100 : (100 : Int32) - nI S = nI (100 - S) := nI_sub hS
    by_cases c : isW b n e 7 = true
    · have hF : ∀ y, y < cN Q → pn Q (86 + (r * 6 + y)) = 0 → cT Q r < 6 := fun y hy hz => by
        have y6 : y < 6 := by have := hV.N.2; omega
        rw [← hA.2.1]
        exact cz_lt (y := y) (by rw [cP_eq hr y6]; exact hz) 6 y6
      rcases to_sim (rest := 100 - S) hZ h hV.T hr hN1 hV.N.2 hV.N.1 hV.P (hV.QT r hr) hF (by omega) c k0 with ⟨y, v, e', Mc', R1, Mr', k1, q1, q2, g, hy, hz, v1, v2, he, F, G⟩ | ⟨c1, p, Mc', R1, Mr', k1, q1, q2, oC, oR, F, G⟩
      · have y6 : y < 6 := by have := hV.N.2; omega
        have lt : cT Q r < 6 := hF y hy hz
        have hz' : cP Q r y = 0 := by rw [cP_eq hr y6]; exact hz
        have nx : nI x + (1 : Int32) = nI (x + 1) := nI_add x 1
        have up : cT (rowT Q r y (cT Q r) v) r = x + 1 := by rw [rowT_cT hr y6 lt, if_pos rfl, hx]
        have es : 100 - S - v = 100 - (S + v) := by omega
        rcases tos_all hZ hr hv k0 (d - 1) (x + 1) (S + v) e' _ Mc' Mr' (by omega) up (hA.tell hV hr hy hz' v1 (by omega)) (by omega) (hV.tell hr y6 lt (by omega)) (by rw [rowT_cN]; exact hN1) g with ⟨e2, Q2, S2, C2, R2, k2, r2, g2, w2, a2, s2, f2, le2, F2, G2⟩ | ⟨c2, p2, C2, R2, k2, r2, oC, oR, F2, G2⟩
        · refine Or.inl ⟨e2, Q2, S2, C2, R2, fun m hm => ?_, fun m k hm => ?_, g2, w2, a2, s2, fun i hi hj hk => ?_, by omega, F.trans F2, G.trans G2⟩
          · obtain ⟨m', rfl⟩ : ∃ m', m = m' + 1 := ⟨m - 1, by omega⟩
            rw [k1 m' x (by omega), nx, es]
            exact k2 m' (by omega)
          · obtain ⟨m', rfl⟩ : ∃ m', m = m' + 1 := ⟨m - 1, by omega⟩
            rw [f_X12_actLine_L142, q1, cl_some, if_neg (by decide), hv, s100, q2, cl_some, nI_add]
            exact r2 m' k (by omega)
          · rw [f2 i hi hj hk, rowT_ne (by omega) (by omega) hk]
        · refine Or.inr ⟨c2, p2, C2, R2, fun m hm => ?_, fun m k hm => ?_, oC, oR, F.trans F2, G.trans G2⟩
          · obtain ⟨m', rfl⟩ : ∃ m', m = m' + 1 := ⟨m - 1, by omega⟩
            rw [k1 m' x (by omega), nx, es]
            exact k2 m' (by omega)
          · obtain ⟨m', rfl⟩ : ∃ m', m = m' + 1 := ⟨m - 1, by omega⟩
            rw [f_X12_actLine_L142, q1, cl_some, if_neg (by decide), hv, s100, q2, cl_some, nI_add]
            exact r2 m' k (by omega)
      · have x6 := hV.T r hr
        refine Or.inr ⟨c1, p, Mc', Mr', fun m hm => ?_, fun m k hm => ?_, oC, oR, F, G⟩
        · obtain ⟨m', rfl⟩ : ∃ m', m = m' + 1 := ⟨m - 1, by omega⟩
          exact k1 m' x (by omega)
        · obtain ⟨m', rfl⟩ : ∃ m', m = m' + 1 + 1 := ⟨m - 2, by omega⟩
          rw [f_X12_actLine_L142, q1, cl_some, if_neg (by decide), hv, s100, q2, cl_some, f_X12_actLine_L142, passesE oR, cl_some, if_pos rfl]
          exact ⟨_, rfl⟩
    · have c' : isW b n e 7 = false := by simpa using c
      refine Or.inl ⟨e, Q, S, Mc, Mr, fun m hm => ?_, fun m k hm => ?_, h, hV, hA, hS, fun _ _ _ _ => rfl, Nat.le_refl _, fr.rfl, fQ.rfl⟩
      · obtain ⟨m', rfl⟩ : ∃ m', m = m' + 1 := ⟨m - 1, by omega⟩
        rw [f_X4_parsePercents_L5, if_neg (by rw [show (6 : Int32) = nI 6 from rfl, nI_ilt (by decide) (by omega)]; omega), isWordC hZ h.1.1 h.1.2.1 h.1.2.2 (by decide), cl_some, c', if_pos (show bN false = (0 : Int32) from rfl)]
      · obtain ⟨m', rfl⟩ : ∃ m', m = m' + 1 := ⟨m - 1, by omega⟩
        rw [f_X12_actLine_L142, passesN hZ h.2.2.2 (by decide) c', cl_some, if_pos rfl]
termination_by d => d
decreasing_by omega
