/-! tokens -/
/-- the first place from e on, before e + d, where p ends -/
def spn (p : Nat → Bool) : Nat → Nat → Nat
  | 0, e => e
  | d + 1, e => if p e then spn p d (e + 1) else e
theorem spn_ok {p : Nat → Bool} : ∀ d e, e ≤ spn p d e ∧ spn p d e ≤ e + d ∧ (∀ i, e ≤ i → i < spn p d e → p i = true) ∧ (spn p d e < e + d → p (spn p d e) = false)
  | 0, e => ⟨Nat.le_refl _, Nat.le_refl _, fun i h1 h2 => absurd h2 (by show ¬ i < e; omega), fun h => absurd h (by show ¬ e < e + 0; omega)⟩
  | d + 1, e => by
    unfold spn
    by_cases h : p e = true
    · rw [if_pos h]
      obtain ⟨a1, a2, a3, a4⟩ := spn_ok (p := p) d (e + 1)
      refine ⟨by omega, by omega, fun i h1 h2 => ?_, fun h3 => a4 (by omega)⟩
      by_cases c : i = e
      · rw [c]; exact h
      · exact a3 i (by omega) h2
    · rw [if_neg h]
      exact ⟨Nat.le_refl _, by omega, fun i h1 h2 => absurd h2 (by omega), fun _ => by simpa using h⟩
def spN (p : Nat → Bool) (n e : Nat) : Nat := spn p (n - e) e
theorem spN_ok {p : Nat → Bool} {n e : Nat} (h : e ≤ n) : e ≤ spN p n e ∧ spN p n e ≤ n ∧ (∀ i, e ≤ i → i < spN p n e → p i = true) ∧ (spN p n e < n → p (spN p n e) = false) := by
  obtain ⟨a1, a2, a3, a4⟩ := spn_ok (p := p) (n - e) e
  unfold spN
  exact ⟨a1, by omega, a3, fun z => a4 (by omega)⟩
def isL (c : Nat) : Bool := decide (97 ≤ c ∧ c ≤ 122)
def isD (c : Nat) : Bool := decide (48 ≤ c ∧ c ≤ 57)
/-- the token that begins at e or behind blanks: where, how far, which kind -/
def tA (b : Nat → Nat) (n e : Nat) : Nat := spN (fun i => decide (b i = 32)) n e
def tL (b : Nat → Nat) (n e : Nat) : Nat := spN (fun i => isL (b i)) n (tA b n e)
def tD (b : Nat → Nat) (n e : Nat) : Nat := spN (fun i => isD (b i)) n (tA b n e)
def tK (b : Nat → Nat) (n e : Nat) : Nat := if n ≤ tA b n e then 0 else if isL (b (tA b n e)) then (if 8 < tL b n e - tA b n e then 5 else 1) else if isD (b (tA b n e)) then (if 5 < tD b n e - tA b n e then 5 else 2) else if b (tA b n e) = 45 then 3 else if b (tA b n e) = 59 then 4 else 5
def tE (b : Nat → Nat) (n e : Nat) : Nat := if n ≤ tA b n e then tA b n e else if isL (b (tA b n e)) then tL b n e else if isD (b (tA b n e)) then tD b n e else tA b n e + 1
/-- the number of k digits from a on -/
def dv (b : Nat → Nat) (a : Nat) : Nat → Nat
  | 0 => 0
  | k + 1 => dv b a k * 10 + (b (a + k) - 48)
def tV (b : Nat → Nat) (n e : Nat) : Nat := dv b (tA b n e) (tD b n e - tA b n e)
theorem tA_ok {b : Nat → Nat} {n e : Nat} (h : e ≤ n) : e ≤ tA b n e ∧ tA b n e ≤ n := ⟨(spN_ok h).1, (spN_ok h).2.1⟩
theorem tE_ok {b : Nat → Nat} {n e : Nat} (h : e ≤ n) : tA b n e ≤ tE b n e ∧ tE b n e ≤ n := by
  obtain ⟨a1, a2⟩ := tA_ok (b := b) h
  unfold tE
  by_cases c : n ≤ tA b n e
  · rw [if_pos c]
    exact ⟨Nat.le_refl _, a2⟩
  · rw [if_neg c]
    have l := spN_ok (p := fun i => isL (b i)) a2
    have d := spN_ok (p := fun i => isD (b i)) a2
    split
    · exact ⟨l.1, l.2.1⟩
    · split
      · exact ⟨d.1, d.2.1⟩
      · exact ⟨by omega, by omega⟩
/-- a byte of the class -/
def bySg (v : Nat) : Int32 := (nI v).toInt8.toInt32
theorem bySg_lt : ∀ v, v < 128 → bySg v = nI v := by decide +kernel
theorem bySg_ge : ∀ v, v < 256 → 128 ≤ v → bySg v < nI 0 := by decide +kernel
theorem bySg_eq {v k : Nat} (hv : v < 256) (hk : k < 128) : (bySg v = nI k) = (v = k) := by
  by_cases c : v < 128
  · rw [bySg_lt v c, nI_eq (by omega) (by omega)]
  · have h1 := bySg_ge v hv (by omega)
    refine propext ⟨fun h => ?_, fun h => absurd h (by omega)⟩
    rw [h] at h1
    exact absurd h1 (nI_nlt0 (by omega))
theorem letC {Z : Nat} {M : Mem} {v : Nat} (hv : v < 256) : f_X2_isLetter Z M (bySg v) = some (bN (isL v), M) := by
  unfold f_X2_isLetter isL
  by_cases c : v < 128
  · rw [bySg_lt v c, show (97 : Int32) = nI 97 from rfl, show (122 : Int32) = nI 122 from rfl]
    by_cases d : v < 97
    · rw [if_pos (by rw [nI_ilt (by omega) (by decide)]; exact d), decide_eq_false (by omega)]
      rfl
    · rw [if_neg (by rw [nI_ilt (by omega) (by decide)]; exact d)]
      by_cases e : 122 < v
      · rw [if_pos (by rw [nI_ilt (by omega) (by omega)]; exact e), decide_eq_false (by omega)]
        rfl
      · rw [if_neg (by rw [nI_ilt (by omega) (by omega)]; exact e), decide_eq_true (by omega)]
        rfl
  · have h1 := bySg_ge v hv (by omega)
    rw [if_pos (by
      have := Int32.lt_iff_toInt_lt.mp h1
      rw [nI_toInt (by decide)] at this
      rw [Int32.lt_iff_toInt_lt]
      have e : (97 : Int32).toInt = 97 := by decide
      omega), decide_eq_false (by omega)]
    rfl
theorem digC {Z : Nat} {M : Mem} {v : Nat} (hv : v < 256) : f_X2_isDigit Z M (bySg v) = some (bN (isD v), M) := by
  unfold f_X2_isDigit isD
  by_cases c : v < 128
  · rw [bySg_lt v c, show (48 : Int32) = nI 48 from rfl, show (57 : Int32) = nI 57 from rfl]
    by_cases d : v < 48
    · rw [if_pos (by rw [nI_ilt (by omega) (by decide)]; exact d), decide_eq_false (by omega)]
      rfl
    · rw [if_neg (by rw [nI_ilt (by omega) (by decide)]; exact d)]
      by_cases e : 57 < v
      · rw [if_pos (by rw [nI_ilt (by omega) (by omega)]; exact e), decide_eq_false (by omega)]
        rfl
      · rw [if_neg (by rw [nI_ilt (by omega) (by omega)]; exact e), decide_eq_true (by omega)]
        rfl
  · have h1 := bySg_ge v hv (by omega)
    rw [if_pos (by
      have := Int32.lt_iff_toInt_lt.mp h1
      rw [nI_toInt (by decide)] at this
      rw [Int32.lt_iff_toInt_lt]
      have e : (48 : Int32).toInt = 48 := by decide
      omega), decide_eq_false (by omega)]
    rfl
/-- the class's bytes -/
def BC (b : Nat → Nat) (n : Nat) (M : Mem) : Prop := n ≤ 1200 ∧ gI M 1 2 = nI n ∧ ∀ i, i < n → b i < 256 ∧ gI M 2 i = bySg (b i)
/-- the class's token -/
def TC (b : Nat → Nat) (n e : Nat) (M : Mem) : Prop := gI M 1 3 = nI (tK b n e) ∧ gI M 1 4 = nI (tA b n e) ∧ gI M 1 5 = nI (tE b n e) ∧ (tK b n e = 2 → gI M 1 6 = nI (tV b n e))
theorem BC.fr {b : Nat → Nat} {n : Nat} {M M' : Mem} {l : List Nat} (h : BC b n M) (hf : fr l M M') (h1 : 1 ∉ l) (h2 : 2 ∉ l) : BC b n M' := by
  unfold BC
  rw [hf.I h1, hf.I h2]
  exact h
theorem TC.fr {b : Nat → Nat} {n e : Nat} {M M' : Mem} {l : List Nat} (h : TC b n e M) (hf : fr l M M') (h1 : 1 ∉ l) : TC b n e M' := by
  unfold TC
  rw [hf.I h1]
  exact h
theorem BC.s1 {b : Nat → Nat} {n : Nat} {M : Mem} (h : BC b n M) {k : Nat} {v : Int32} (hk : k ≠ 2) : BC b n (sI M 1 k v) := ⟨h.1, by rw [gI_sI, if_neg (fun z => hk z.2.symm)]; exact h.2.1, fun i hi => by rw [gI_sI, if_neg (fun z => absurd z.1 (by decide))]; exact h.2.2 i hi⟩
theorem fr1 {M M' : Mem} {k : Nat} {v : Int32} (h : fr [1] M M') : fr [1] M (sI M' 1 k v) := fr_sI h (by decide)
theorem advance_ok {Z : Nat} {M : Mem} {b : Nat → Nat} {n e : Nat} (hZ : 4000 < Z) (hB : BC b n M) (he : e ≤ n) (h5 : gI M 1 5 = nI e) : ∃ M', f_X2_advance Z M = some ((), M') ∧ fr [1] M M' ∧ BC b n M' ∧ TC b n e M' := by
  have hn := hB.1
  have a := spN_ok (p := fun i => decide (b i = 32)) he
  have ea : spN (fun i => decide (b i = 32)) n e = tA b n e := rfl
  rw [ea] at a
  obtain ⟨a1, a2, a3, a4⟩ := a
  have l := spN_ok (p := fun i => isL (b i)) a2
  have el : spN (fun i => isL (b i)) n (tA b n e) = tL b n e := rfl
  rw [el] at l
  obtain ⟨l1, l2, l3, l4⟩ := l
  have d := spN_ok (p := fun i => isD (b i)) a2
  have ed : spN (fun i => isD (b i)) n (tA b n e) = tD b n e := rfl
  rw [ed] at d
  obtain ⟨d1, d2, d3, d4⟩ := d
  unfold f_X2_advance
  rw [bd_eq, h5, bd_eq]
  -- blanks
  refine lpS (σ := Mem) (fun m _ M' => f_X2_advance_L8 Z _ m M') (fun q => ∃ M', q = some ((), M') ∧ fr [1] M M' ∧ BC b n M' ∧ TC b n e M') (fun i M' => fr [1] M M' ∧ BC b n M' ∧ gI M' 1 4 = nI i) e (tA b n e) (Z := Z) (s := sI M 1 4 (nI e)) a1 (by omega) ⟨fr1 fr.rfl, hB.s1 (by decide), by rw [gI_sI, if_pos ⟨rfl, rfl⟩]⟩ ?_ ?_
  · intro m i M' h1 h2 hI K
    obtain ⟨g1, g2, g3⟩ := hI
    have hb := g2.2.2 i (by omega)
    have h32 : b i = 32 := of_decide_eq_true (a3 i h1 h2)
    rw [f_X2_advance_L8, bd_eq, g3, bd_eq, g2.2.1, if_neg (by rw [nI_ile (by omega) (by omega)]; omega), bd_eq, rdI_n (by omega) (by decide), hb.2, h32, if_pos (by decide), bd_eq, bd_eq, i1, nI_add]
    exact K _ ⟨fr1 g1, g2.s1 (by decide), by rw [gI_sI, if_pos ⟨rfl, rfl⟩]⟩
  · intro m M1 hI
    obtain ⟨g1, g2, g3⟩ := hI
    have hk : ∀ (k : Mem → Option (Unit × Mem)), f_X2_advance_L8 Z k (m + 1) M1 = k M1 := fun k => by
      rw [f_X2_advance_L8, bd_eq, g3, bd_eq, g2.2.1]
      by_cases c : n ≤ tA b n e
      · rw [if_pos (by rw [nI_ile (by omega) (by omega)]; exact c)]
      · have hb := g2.2.2 (tA b n e) (by omega)
        have h32 : ¬ b (tA b n e) = 32 := of_decide_eq_false (a4 (by omega))
        rw [if_neg (by rw [nI_ile (by omega) (by omega)]; exact c), bd_eq, rdI_n (by omega) (by decide), hb.2, if_neg (by rw [show (32 : Int32) = nI 32 from rfl, bySg_eq hb.1 (by decide)]; exact h32)]
    rw [hk, bd_eq, g3, bd_eq]
    have g5 : BC b n (sI M1 1 5 (nI (tA b n e))) := g2.s1 (by decide)
    have f5 : fr [1] M (sI M1 1 5 (nI (tA b n e))) := fr1 g1
    have e4 : gI (sI M1 1 5 (nI (tA b n e))) 1 4 = nI (tA b n e) := by rw [gI_sI, if_neg (by decide)]; exact g3
    have e5 : gI (sI M1 1 5 (nI (tA b n e))) 1 5 = nI (tA b n e) := by rw [gI_sI, if_pos ⟨rfl, rfl⟩]
    generalize sI M1 1 5 (nI (tA b n e)) = M2 at g5 f5 e4 e5 ⊢
    rw [bd_eq, e4, bd_eq, g5.2.1]
    by_cases c : n ≤ tA b n e
    · -- the end
      have ek : tK b n e = 0 := by unfold tK; rw [if_pos c]
      have ee : tE b n e = tA b n e := by unfold tE; rw [if_pos c]
      rw [if_neg (by rw [nI_ilt (by omega) (by omega)]; omega), bd_eq]
      refine ⟨_, rfl, fr1 f5, g5.s1 (by decide), ?_, ?_, ?_, fun z => absurd z (by omega)⟩
      · rw [gI_sI, if_pos ⟨rfl, rfl⟩, ek]
        rfl
      · rw [gI_sI, if_neg (by decide)]
        exact e4
      · rw [gI_sI, if_neg (by decide), ee]
        exact e5
    · have hb := g5.2.2 (tA b n e) (by omega)
      rw [if_pos (by rw [nI_ilt (by omega) (by omega)]; omega), bd_eq, rdI_n (by omega) (by decide), hb.2, letC hb.1, cl_some]
      by_cases cl' : isL (b (tA b n e)) = true
      · have ee : tE b n e = tL b n e := by unfold tE; rw [if_neg c, if_pos cl']
        rw [if_neg (by rw [bN0, cl']; decide)]
        refine lpS (σ := Mem) (fun m _ M' => f_X2_advance_L88 Z (fun (M63 : Mem) => bd (gI M63 (1) 5) (fun v64 => bd (gI M63 (1) 4) (fun v65 => (if (8 : Int32) < (v64 - v65) then bd (sI M63 (1) 3 (5 : Int32)) (fun M66 => some ((), M66)) else bd (sI M63 (1) 3 (1 : Int32)) (fun M67 => some ((), M67)))))) m M') (fun q => ∃ M', q = some ((), M') ∧ fr [1] M M' ∧ BC b n M' ∧ TC b n e M') (fun i M' => fr [1] M M' ∧ BC b n M' ∧ gI M' 1 4 = nI (tA b n e) ∧ gI M' 1 5 = nI i) (tA b n e) (tL b n e) (Z := Z) (s := M2) l1 (by omega) ⟨f5, g5, e4, e5⟩ ?_ ?_
        · intro m i M' h1 h2 hI K
          obtain ⟨q1, q2, q3, q4⟩ := hI
          have hb := q2.2.2 i (by omega)
          have hl : isL (b i) = true := l3 i h1 h2
          rw [f_X2_advance_L88, bd_eq, q4, bd_eq, q2.2.1, if_neg (by rw [nI_ile (by omega) (by omega)]; omega), bd_eq, rdI_n (by omega) (by decide), hb.2, letC hb.1, cl_some, if_neg (by rw [bN0, hl]; decide), bd_eq, q4, bd_eq, i1, nI_add]
          exact K _ ⟨fr1 q1, q2.s1 (by decide), by rw [gI_sI, if_neg (by decide)]; exact q3, by rw [gI_sI, if_pos ⟨rfl, rfl⟩]⟩
        · intro m M3 hI
          obtain ⟨q1, q2, q3, q4⟩ := hI
          have hk : ∀ (k : Mem → Option (Unit × Mem)), f_X2_advance_L88 Z k (m + 1) M3 = k M3 := fun k => by
            rw [f_X2_advance_L88, bd_eq, q4, bd_eq, q2.2.1]
            by_cases c2 : n ≤ tL b n e
            · rw [if_pos (by rw [nI_ile (by omega) (by omega)]; exact c2)]
            · have hb := q2.2.2 (tL b n e) (by omega)
              have hl : isL (b (tL b n e)) = false := l4 (by omega)
              rw [if_neg (by rw [nI_ile (by omega) (by omega)]; exact c2), bd_eq, rdI_n (by omega) (by decide), hb.2, letC hb.1, cl_some, if_pos (by rw [bN0]; exact hl)]
          rw [hk, bd_eq, q4, bd_eq, q3, nI_sub l1, show (8 : Int32) = nI 8 from rfl]
          have ek : tK b n e = if 8 < tL b n e - tA b n e then 5 else 1 := by unfold tK; rw [if_neg c, if_pos cl']
          have nk : tK b n e ≠ 2 := by rw [ek]; split <;> decide
          by_cases c3 : 8 < tL b n e - tA b n e
          · rw [if_pos c3] at ek
            rw [if_pos (by rw [nI_ilt (by omega) (by omega)]; exact c3), bd_eq]
            refine ⟨_, rfl, fr1 q1, q2.s1 (by decide), ?_, ?_, ?_, fun z => absurd z nk⟩
            · rw [gI_sI, if_pos ⟨rfl, rfl⟩, ek]
              rfl
            · rw [gI_sI, if_neg (by decide)]
              exact q3
            · rw [gI_sI, if_neg (by decide), ee]
              exact q4
          · rw [if_neg c3] at ek
            rw [if_neg (by rw [nI_ilt (by omega) (by omega)]; exact c3), bd_eq]
            refine ⟨_, rfl, fr1 q1, q2.s1 (by decide), ?_, ?_, ?_, fun z => absurd z nk⟩
            · rw [gI_sI, if_pos ⟨rfl, rfl⟩, ek]
              rfl
            · rw [gI_sI, if_neg (by decide)]
              exact q3
            · rw [gI_sI, if_neg (by decide), ee]
              exact q4
      · have cl2 : isL (b (tA b n e)) = false := by simpa using cl'
        rw [if_pos (by rw [bN0]; exact cl2), bd_eq, e4, rdI_n (by omega) (by decide), hb.2, digC hb.1, cl_some]
        by_cases cd : isD (b (tA b n e)) = true
        · have ee : tE b n e = tD b n e := by unfold tE; rw [if_neg c, if_neg cl', if_pos cd]
          rw [if_neg (by rw [bN0, cd]; decide), bd_eq]
          refine lpS (σ := Mem) (fun m _ M' => f_X2_advance_L173 Z (fun (M47 : Mem) => bd (gI M47 (1) 5) (fun v48 => bd (gI M47 (1) 4) (fun v49 => (if (5 : Int32) < (v48 - v49) then bd (sI M47 (1) 3 (5 : Int32)) (fun M50 => some ((), M50)) else bd (sI M47 (1) 3 (2 : Int32)) (fun M51 => some ((), M51)))))) m M') (fun q => ∃ M', q = some ((), M') ∧ fr [1] M M' ∧ BC b n M' ∧ TC b n e M') (fun i M' => fr [1] M M' ∧ BC b n M' ∧ gI M' 1 4 = nI (tA b n e) ∧ gI M' 1 5 = nI i ∧ gI M' 1 6 = nI (dv b (tA b n e) (i - tA b n e))) (tA b n e) (tD b n e) (Z := Z) (s := sI M2 1 6 0) d1 (by omega) ⟨fr1 f5, g5.s1 (by decide), by rw [gI_sI, if_neg (by decide)]; exact e4, by rw [gI_sI, if_neg (by decide)]; exact e5, by rw [gI_sI, if_pos ⟨rfl, rfl⟩, Nat.sub_self]; rfl⟩ ?_ ?_
          · intro m i M' h1 h2 hI K
            obtain ⟨q1, q2, q3, q4, q5⟩ := hI
            have hb := q2.2.2 i (by omega)
            have hl : isD (b i) = true := d3 i h1 h2
            have hd : 48 ≤ b i ∧ b i ≤ 57 := of_decide_eq_true hl
            have en : gI M' 1 6 * (10 : Int32) + (bySg (b i) - (48 : Int32)) = nI (dv b (tA b n e) (i + 1 - tA b n e)) := by
              rw [q5, bySg_lt _ (by omega), show (10 : Int32) = nI 10 from rfl, show (48 : Int32) = nI 48 from rfl, nI_sub hd.1, nI_mul, nI_add, show i + 1 - tA b n e = (i - tA b n e) + 1 by omega]
              show _ = nI (dv b (tA b n e) (i - tA b n e) * 10 + (b (tA b n e + (i - tA b n e)) - 48))
              rw [show tA b n e + (i - tA b n e) = i by omega]
            rw [f_X2_advance_L173, bd_eq, q4, bd_eq, q2.2.1, if_neg (by rw [nI_ile (by omega) (by omega)]; omega), bd_eq, rdI_n (by omega) (by decide), hb.2, digC hb.1, cl_some, if_neg (by rw [bN0, hl]; decide), bd_eq, bd_eq, q4, rdI_n (by omega) (by decide), hb.2, bd_eq, en, bd_eq, gI_sI, if_neg (by decide), q4, bd_eq, show nI i + (1 : Int32) = nI (i + 1) from nI_add i 1]
            exact K _ ⟨fr1 (fr1 q1), (q2.s1 (by decide)).s1 (by decide), by rw [gI_sI, if_neg (by decide), gI_sI, if_neg (by decide)]; exact q3, by rw [gI_sI, if_pos ⟨rfl, rfl⟩], by rw [gI_sI, if_neg (by decide), gI_sI, if_pos ⟨rfl, rfl⟩]⟩
          · intro m M3 hI
            obtain ⟨q1, q2, q3, q4, q5⟩ := hI
            have hk : ∀ (k : Mem → Option (Unit × Mem)), f_X2_advance_L173 Z k (m + 1) M3 = k M3 := fun k => by
              rw [f_X2_advance_L173, bd_eq, q4, bd_eq, q2.2.1]
              by_cases c2 : n ≤ tD b n e
              · rw [if_pos (by rw [nI_ile (by omega) (by omega)]; exact c2)]
              · have hb := q2.2.2 (tD b n e) (by omega)
                have hl : isD (b (tD b n e)) = false := d4 (by omega)
                rw [if_neg (by rw [nI_ile (by omega) (by omega)]; exact c2), bd_eq, rdI_n (by omega) (by decide), hb.2, digC hb.1, cl_some, if_pos (by rw [bN0]; exact hl)]
            rw [hk, bd_eq, q4, bd_eq, q3, nI_sub d1]
            have e50 : (5 : Int32) = nI 5 := rfl
            have ek : tK b n e = if 5 < tD b n e - tA b n e then 5 else 2 := by unfold tK; rw [if_neg c, if_neg cl', if_pos cd]
            by_cases c3 : 5 < tD b n e - tA b n e
            · rw [if_pos c3] at ek
              rw [if_pos (by rw [e50, nI_ilt (by omega) (by omega)]; exact c3), bd_eq]
              refine ⟨_, rfl, fr1 q1, q2.s1 (by decide), ?_, ?_, ?_, fun z => absurd z (by omega)⟩
              · rw [gI_sI, if_pos ⟨rfl, rfl⟩, ek]
                rfl
              · rw [gI_sI, if_neg (by decide)]
                exact q3
              · rw [gI_sI, if_neg (by decide), ee]
                exact q4
            · rw [if_neg c3] at ek
              rw [if_neg (by rw [e50, nI_ilt (by omega) (by omega)]; exact c3), bd_eq]
              refine ⟨_, rfl, fr1 q1, q2.s1 (by decide), ?_, ?_, ?_, fun _ => ?_⟩
              · rw [gI_sI, if_pos ⟨rfl, rfl⟩, ek]
                rfl
              · rw [gI_sI, if_neg (by decide)]
                exact q3
              · rw [gI_sI, if_neg (by decide), ee]
                exact q4
              · rw [gI_sI, if_neg (by decide)]
                exact q5
        · have cd2 : isD (b (tA b n e)) = false := by simpa using cd
          have ee : tE b n e = tA b n e + 1 := by unfold tE; rw [if_neg c, if_neg cl', if_neg cd]
          have fin : ∀ k, tK b n e = k → k ≠ 2 → ∃ M', bd (sI M2 1 3 (nI k)) (fun M26 => bd (gI M26 (1) 4) (fun v27 => bd (sI M26 (1) 5 (v27 + (1 : Int32))) (fun M28 => some ((), M28)))) = some ((), M') ∧ fr [1] M M' ∧ BC b n M' ∧ TC b n e M' := fun k ek k2 => by
            rw [bd_eq, bd_eq, gI_sI, if_neg (by decide), e4, bd_eq, i1, nI_add]
            refine ⟨_, rfl, fr1 (fr1 f5), (g5.s1 (by decide)).s1 (by decide), ?_, ?_, ?_, fun z => absurd z (by omega)⟩
            · rw [gI_sI, if_neg (by decide), gI_sI, if_pos ⟨rfl, rfl⟩, ek]
            · rw [gI_sI, if_neg (by decide), gI_sI, if_neg (by decide)]
              exact e4
            · rw [gI_sI, if_pos ⟨rfl, rfl⟩, ee]
          rw [if_pos (by rw [bN0]; exact cd2), bd_eq, e4, rdI_n (by omega) (by decide), hb.2, jn_eq]
          have ek : tK b n e = if b (tA b n e) = 45 then 3 else if b (tA b n e) = 59 then 4 else 5 := by unfold tK; rw [if_neg c, if_neg cl', if_neg cd]
          by_cases c1 : b (tA b n e) = 45
          · rw [if_pos c1] at ek
            rw [if_pos (by rw [show (45 : Int32) = nI 45 from rfl, bySg_eq hb.1 (by decide)]; exact c1)]
            exact fin 3 ek (by decide)
          · rw [if_neg c1] at ek
            rw [if_neg (by rw [show (45 : Int32) = nI 45 from rfl, bySg_eq hb.1 (by decide)]; exact c1), bd_eq, rdI_n (by omega) (by decide), hb.2]
            by_cases c2 : b (tA b n e) = 59
            · rw [if_pos c2] at ek
              rw [if_pos (by rw [show (59 : Int32) = nI 59 from rfl, bySg_eq hb.1 (by decide)]; exact c2)]
              exact fin 4 ek (by decide)
            · rw [if_neg c2] at ek
              rw [if_neg (by rw [show (59 : Int32) = nI 59 from rfl, bySg_eq hb.1 (by decide)]; exact c2)]
              exact fin 5 ek (by decide)

