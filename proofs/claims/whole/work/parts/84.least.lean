/-! leastLimit -/
theorem bestFin {M M0 M' : Mem} {v : Int64} (hI : Inv M) (h : Has M) (f0 : fr lB M M0) (p0 : PMM M M0) (f : fr lG (T0 (sL M0 124 0 v)) M') (t1 : ∀ i, i < 54 → gI M' 109 i = gI M 109 i) (t2 : ∀ j, 54 ≤ j → gI M' 110 j = gI M 110 j) (t3 : ∀ j, j ≠ 28 → gI M' 108 j = gI (T0 (sL M0 124 0 v)) 108 j) : Inv M' ∧ gI M' 108 0 = 0 ∧ gL M' 124 0 = v := by
  have kt1 : kt M M' := by
    refine ⟨fun o a b c => ?_, fun k hk => ?_, t1, t2⟩
    · have c1 : o ∉ lG := fun z => by
        have : ∀ o, o ∈ lG → o ∈ scrL ∨ o = 108 ∨ o ∈ [96, 97, 98, 109, 110] := by decide
        rcases this o z with y | y | y
        · exact a y
        · exact b y
        · exact c y
      have c2 : o ∉ lB := fun z => by
        have : ∀ o, o ∈ lB → o ∈ scrL ∨ o ∈ [96, 97, 98, 109, 110] := by decide
        rcases this o z with y | y
        · exact a y
        · exact c y
      have c3 : o ≠ 124 := fun z => a (by rw [z]; decide)
      have q := f o c1
      have q2 := f0 o c2
      rw [T0_I b, T0_L, T0_R, gI_sL', gR_sL', gL_sL', if_neg c3] at q
      exact ⟨q.1.trans q2.1, q.2.1.trans q2.2.1, q.2.2.trans q2.2.2⟩
    · rw [t3 k (by omega), T0.kp.2 k hk, gI_sL', f0.I (by decide)]
  have hc : Cache (gI M 112) M' := by
    have hc := p0.cache h
    have q96 := (f 96 (by decide)).1
    have q97 := (f 97 (by decide)).2.1
    have q98 := (f 98 (by decide)).2.1
    rw [T0_I (by decide), gI_sL'] at q96
    rw [T0_L, gL_sL', if_neg (by decide)] at q97
    rw [T0_L, gL_sL', if_neg (by decide)] at q98
    unfold Cache
    rw [q96, q97, q98]
    exact hc
  refine ⟨invKt hI h kt1 hc, ?_, ?_⟩
  · rw [t3 0 (by decide)]
    exact T0_0
  · rw [f.L (by decide), T0_L, gL_sL, if_pos ⟨rfl, rfl⟩]
/-- the limit that a set asks -/
def itL (P : Nat → Int32) (W : Nat → Nat) (b st H : Nat) : Nat := (uN P W b st H + 10 * 1000 ^ (H - 1) - 1) / (10 * 1000 ^ (H - 1))
def okL (P S : Nat → Int32) (st H : Nat) (lim : Nat → Nat) (b : Nat) (c : Nat → Nat) : Bool := al S c (cN P) && hd P (wPure c) st H (fun b' => if b' = b then lim b' + 9999 else lim b') (cB P)
def LL (P S : Nat → Int32) (st H : Nat) (lim : Nat → Nat) (b : Nat) : Nat → Nat
  | 0 => 10000
  | k + 1 => match cho P k with
    | none => LL P S st H lim b k
    | some c => if okL P S st H lim b c then (if LL P S st H lim b k ≤ itL P (wPure c) b st H then LL P S st H lim b k else itL P (wPure c) b st H) else LL P S st H lim b k
theorem LL_s {P S : Nat → Int32} {st H : Nat} {lim : Nat → Nat} {b k : Nat} {c : Nat → Nat} (h : cho P k = some c) : LL P S st H lim b (k + 1) = if okL P S st H lim b c then (if LL P S st H lim b k ≤ itL P (wPure c) b st H then LL P S st H lim b k else itL P (wPure c) b st H) else LL P S st H lim b k := by
  show (match cho P k with
    | none => LL P S st H lim b k
    | some c => if okL P S st H lim b c then (if LL P S st H lim b k ≤ itL P (wPure c) b st H then LL P S st H lim b k else itL P (wPure c) b st H) else LL P S st H lim b k) = _
  rw [h]
theorem unit_pos {H : Nat} : 0 < 10 * 1000 ^ (H - 1) := Nat.mul_pos (by decide) (Nat.pow_pos (by decide))
theorem uN_unit {P : Nat → Int32} {W : Nat → Nat} {b st H : Nat} (hV : VP P) (hK : WOK P W) (h1 : 1 ≤ H) (hH : H ≤ 5) : uN P W b st H ≤ 2475 * (10 * 1000 ^ (H - 1)) := by
  have h2 := uN_le (b := b) (st := st) (H := H) hV (fun x hx => Nat.le_of_eq (hK.2 x hx)) (fun x hx => Nat.le_of_eq (hK.T hV x hx)) h1
  have h3 : 495 * (10 * 1000 ^ (H - 1)) * H ≤ 495 * (10 * 1000 ^ (H - 1)) * 5 := Nat.mul_le_mul_left _ hH
  omega
theorem itL_le {P : Nat → Int32} {W : Nat → Nat} {b st H : Nat} (hV : VP P) (hK : WOK P W) (h1 : 1 ≤ H) (hH : H ≤ 5) : itL P W b st H ≤ 2475 := by
  have h2 := uN_unit (b := b) (st := st) hV hK h1 hH
  have h3 := unit_pos (H := H)
  unfold itL
  generalize 10 * 1000 ^ (H - 1) = u at *
  have h4 : (uN P W b st H + u - 1) / u < 2476 := by
    rw [Nat.div_lt_iff_lt_mul h3]
    omega
  omega
theorem LL_le {P S : Nat → Int32} {st H : Nat} {lim : Nat → Nat} {b : Nat} (hV : VP P) (h1 : 1 ≤ H) (hH : H ≤ 5) : ∀ k, LL P S st H lim b k ≤ 2475 ∨ LL P S st H lim b k = 10000
  | 0 => Or.inr rfl
  | k + 1 => by
    have ih := LL_le (S := S) (st := st) (lim := lim) (b := b) hV h1 hH k
    cases q : cho P k with
    | none =>
      have e : LL P S st H lim b (k + 1) = LL P S st H lim b k := by
        show (match cho P k with
          | none => LL P S st H lim b k
          | some c => if okL P S st H lim b c then (if LL P S st H lim b k ≤ itL P (wPure c) b st H then LL P S st H lim b k else itL P (wPure c) b st H) else LL P S st H lim b k) = _
        rw [q]
      rw [e]
      exact ih
    | some c =>
      rw [LL_s q]
      have h3 := itL_le (b := b) (st := st) hV (wPure_WOK hV (cho_ok hV k c q).1) h1 hH
      split
      · split
        · exact ih
        · exact Or.inl h3
      · exact ih
/-- the quotient, in both -/
theorem it_eq {P : Nat → Int32} {W : Nat → Nat} {b st H : Nat} (hV : VP P) (hK : WOK P W) (h1 : 1 ≤ H) (hH : H ≤ 5) : ((uRun P W b st H + lN (10 * 1000 ^ (H - 1))) - (1 : Int64)) / lN (10 * 1000 ^ (H - 1)) = lN (itL P W b st H) := by
  have h2 := uN_lt (b := b) (st := st) hV hK h1 hH
  have h3 := unit_pos (H := H)
  have h4 := unit_le hH
  rw [uRun_lN, lN_add, show (1 : Int64) = lN 1 from rfl, lN_sub (by omega), lN_div (by omega) (by omega)]
  rfl
theorem nzL_p {β : Type} {n : Nat} (h : 0 < n) (h2 : n < 2 ^ 63) {k : Option β} : nzL (lN n) k = k := if_neg (by
  rw [show (0 : Int64) = lN 0 from rfl, lN_eqx h2 (by decide)]
  omega)
theorem limitFor_eq {Z : Nat} {M : Mem} {P : Nat → Int32} {W : Nat → Nat} {b st H k : Nat} (hV : VP P) (hK : WOK P W) (hZ : 60 < Z) (h1 : 1 ≤ H) (hH : H ≤ 5) (hk : k < 729) (hb : b < 3) (h4 : gI M 10 4 = nI H) (h7 : gI M 96 7 = nI k) (hu : gL M 98 (k * 3 + b) = uRun P W b st H) : f_X5_limitFor Z M (nI b) = some (nI (itL P W b st H), M) := by
  have h3 := unit_pos (H := H)
  have h9 := unit_le hH
  unfold f_X5_limitFor
  rw [bd_eq, h4, unitOf_eq (by omega) h1 hH, cl_some, bd_eq, h7, i3, nI_mul, nI_add, rdL_n (by omega) (by decide), hu, if_neg (by rw [show (0 : Int64) = lN 0 from rfl, lN_ile (by omega) (by decide)]; omega), nzL_p h3 (by omega), it_eq hV hK h1 hH, lN_to32]
def xL (n : Nat) : Int32 := if n = 10000 then -1 else nI n
theorem smallestLimit_ok {Z : Nat} {M : Mem} {P S : Nat → Int32} {st H : Nat} (hV : VP P) (hR : RP P M 3) (hS : RS P M 10 S) (hZ : 4000 < Z) (h3 : gI M 10 3 = nI st) (h4 : gI M 10 4 = nI H) (hst : st < cN P) (h1 : 1 ≤ H) (hH : H ≤ 5) (hC : Cache P M) {lim : Nat → Nat} (hl : ∀ b, b < cB P → gI M 13 b = nI (lim b) ∧ lim b ≤ 9999) {b : Nat} (hb : b < cB P) {K : Nat} (k1 : 1 ≤ K) (k2 : K ≤ 729) (k3 : ∀ k, k < K → ∃ c, cho P k = some c) (k4 : cho P K = none) :
    ∃ M', f_X5_smallestLimit Z M (nI b) = some (xL (LL P S st H lim b K), M') ∧ fr lB M M' ∧ PM P S st H M' := by
  have hN := hV.2.1
  obtain ⟨M0, e0, f0, p0', s0⟩ := pureC (Z := Z) hV hR hS hZ h3 h4 hst h1 hH hC (fun v3 M4 => f_X5_smallestLimit_L14 Z (nI b) Z (-1 : Int32) v3 (0 : Int32) M4)
  unfold f_X5_smallestLimit
  rw [e0, i0]
  refine lpS (σ := Int32 × Mem) (fun n k s => f_X5_smallestLimit_L14 Z (nI b) n (xL (LL P S st H lim b k)) s.1 (nI k) s.2) (fun q => ∃ M', q = some (xL (LL P S st H lim b K), M') ∧ fr lB M M' ∧ PM P S st H M') (fun k s => fr lB M s.2 ∧ PM P S st H s.2 ∧ (k < K → s.1 = 1 ∧ ∃ c, SetC P s.2 k c) ∧ (k = K → s.1 = 0)) 0 K (s := (1, M0)) (by omega) (by omega) ⟨f0.mono (by decide), p0', fun _ => ⟨rfl, _, s0⟩, fun z => absurd z (by omega)⟩ ?_ ?_
  · intro n k s _ hk hI KK
    obtain ⟨x6, M1⟩ := s
    obtain ⟨g1, g2, g4, _⟩ := hI
    obtain ⟨e6, c, hs⟩ := g4 hk
    dsimp only at g1 g2 e6 hs KK ⊢
    subst e6
    have hch := (cho_ok hV k c hs.1).1
    have hK := wPure_WOK hV hch
    obtain ⟨t1, t2⟩ := g2.2.2.2.2.2.2 k (by omega) c hs.1
    have m13 : gI M1 13 = gI M 13 := g1.I (by decide)
    have tail : ∀ (v : Int32), v = xL (LL P S st H lim b (k + 1)) → ∃ M', cl (f_X5_moveOn Z M1) (fun v12 M13 => f_X5_smallestLimit_L14 Z (nI b) n v v12 (nI k + (1 : Int32)) M13) = some (xL (LL P S st H lim b K), M') ∧ fr lB M M' ∧ PM P S st H M' := fun v ev => by
      obtain ⟨bb, M3, e3, f3, u5, u6, alt⟩ := moveOn_ok (Z := Z) (M := M1) hV (by omega) (g2.n hV) (g2.m hV) hs
      rw [e3, cl_some, ev, show nI k + (1 : Int32) = nI (k + 1) from nI_add k 1]
      refine KK (bb, M3) ⟨g1.trans (f3.mono (by decide)), g2.fr f3 (fun o a b => by simp; omega) (by decide) (by decide) u5 u6, fun hlt => ?_, fun heq => ?_⟩
      · rcases alt with ⟨a1, a2⟩ | ⟨_, a2⟩
        · exact ⟨a1, a2⟩
        · obtain ⟨c2, hc2⟩ := k3 (k + 1) hlt
          exact absurd (hc2.symm.trans a2) (by simp)
      · rcases alt with ⟨_, c2, a2⟩ | ⟨a1, _⟩
        · have := a2.1
          rw [heq, k4] at this
          exact absurd this (by simp)
        · exact a1
    have eF := LL_s (S := S) (st := st) (H := H) (lim := lim) (b := b) hs.1
    rw [f_X5_smallestLimit_L14, if_neg (by rw [show (729 : Int32) = nI 729 from rfl, nI_ile (by decide) (by omega)]; omega), if_neg (by decide), isPermittedSet_eq hV g2.2.1 (g2.n hV) (by omega) hch hs.2.1, cl_some, jn_eq]
    by_cases b1 : al S c (cN P) = true
    · rw [if_neg (by rw [bN0, b1]; decide), holds_eq hV (by omega) h1 hH hK (k := k) (by omega) (g2.b hV) g2.2.2.2.1 hs.2.2 t2 (lim := fun b' => if b' = b then lim b' + 9999 else lim b') (fun b' hb' => by
        obtain ⟨l1, l2⟩ := hl b' hb'
        rw [m13, l1]
        by_cases d : b' = b
        · rw [if_pos (by rw [d]), if_pos d, show (9999 : Int32) = nI 9999 from rfl, nI_add]
          exact ⟨rfl, by omega⟩
        · rw [if_neg (fun z => d ((nI_eq (by omega) (by omega)).mp z)), if_neg d]
          exact ⟨rfl, by omega⟩), cl_some]
      by_cases b2 : hd P (wPure c) st H (fun b' => if b' = b then lim b' + 9999 else lim b') (cB P) = true
      · have eo : okL P S st H lim b c = true := by
          unfold okL
          rw [b1, b2]
          rfl
        rw [if_pos eo] at eF
        have hL := LL_le (S := S) (st := st) (lim := lim) (b := b) hV h1 hH k
        have hT := itL_le (b := b) (st := st) hV hK h1 hH
        rw [if_neg (by rw [bN0, b2]; decide), limitFor_eq hV hK (by omega) h1 hH (show k < 729 by omega) (by omega) g2.2.2.2.1 hs.2.2 (t2 b hb), cl_some, jn_eq]
        by_cases d : LL P S st H lim b k = 10000
        · have ex : xL (LL P S st H lim b k) = -1 := if_pos d
          rw [if_pos ex]
          dsimp only
          refine tail _ ?_
          rw [eF, if_neg (by omega)]
          exact (if_neg (by omega)).symm
        · have ex : xL (LL P S st H lim b k) = nI (LL P S st H lim b k) := if_neg d
          rw [ex, if_neg (nI_ne_neg (by omega)), bd_eq]
          dsimp only
          refine tail _ ?_
          rw [eF]
          by_cases g : LL P S st H lim b k ≤ itL P (wPure c) b st H
          · rw [if_pos g, if_neg (by rw [nI_ilt (by omega) (by omega)]; omega)]
            exact ex.symm
          · rw [if_neg g, if_pos (by rw [nI_ilt (by omega) (by omega)]; omega)]
            exact (if_neg (by omega)).symm
      · have b3 : hd P (wPure c) st H (fun b' => if b' = b then lim b' + 9999 else lim b') (cB P) = false := by simpa using b2
        have eo : ¬ okL P S st H lim b c = true := by
          unfold okL
          rw [b3, Bool.and_false]
          decide
        rw [if_neg eo] at eF
        rw [if_pos (by rw [bN0]; exact b3)]
        dsimp only
        exact tail _ (by rw [eF])
    · have b3 : al S c (cN P) = false := by simpa using b1
      have eo : ¬ okL P S st H lim b c = true := by
        unfold okL
        rw [b3, Bool.false_and]
        decide
      rw [if_neg eo] at eF
      rw [if_pos (by rw [bN0]; exact b3)]
      dsimp only
      exact tail _ (by rw [eF])
  · intro n s hI
    obtain ⟨x6, M1⟩ := s
    obtain ⟨g1, g2, _, g5⟩ := hI
    dsimp only at g1 g2 g5 ⊢
    have e6 := g5 rfl
    subst e6
    rw [f_X5_smallestLimit_L14, if_pos (show (0 : Int32) = 0 from rfl), ite_self]
    exact ⟨M1, rfl, g1, g2⟩
