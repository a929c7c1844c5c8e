/-! tokens in the reference -/
def BR (b : Nat → Nat) (n : Nat) (M : Mem) : Prop := n ≤ 1200 ∧ gI M 108 12 = nI n ∧ ∀ i, i < n → b i < 256 ∧ gI M 114 i = nI (b i)
def kR (k : Nat) : Nat := if k = 3 then 4 else if k = 4 then 3 else k
def TR (b : Nat → Nat) (n e : Nat) (M : Mem) : Prop := gI M 108 15 = nI (kR (tK b n e)) ∧ gI M 108 14 = nI (tA b n e) ∧ gI M 108 13 = nI (tE b n e) ∧ (tK b n e = 2 → gI M 108 18 = nI (tV b n e)) ∧ (tK b n e = 1 → gI M 108 17 = nI (tE b n e - tA b n e) ∧ ∀ k, k < tE b n e - tA b n e → gI M 115 k = nI (b (tA b n e + k)))
def kT : List Nat := [13, 14, 15, 17, 18]
def ft (M M' : Mem) : Prop := fr [108, 115] M M' ∧ ∀ k, k ∉ kT → gI M' 108 k = gI M 108 k
theorem ft.rfl {M : Mem} : ft M M := ⟨fr.rfl, fun _ _ => Eq.refl _⟩
theorem ft.trans {M M1 M2 : Mem} (h : ft M M1) (h2 : ft M1 M2) : ft M M2 := ⟨h.1.trans h2.1, fun k hk => (h2.2 k hk).trans (h.2 k hk)⟩
theorem ft.s {M M1 : Mem} {k : Nat} {v : Int32} (h : ft M M1) (hk : k ∈ kT) : ft M (sI M1 108 k v) := ⟨fr_sI h.1 (by decide), fun j hj => by rw [gI_sI, if_neg (fun z => hj (by rw [z.2]; exact hk))]; exact h.2 j hj⟩
theorem ft.w {M M1 : Mem} {k : Nat} {v : Int32} (h : ft M M1) : ft M (sI M1 115 k v) := ⟨fr_sI h.1 (by decide), fun j hj => by rw [gI_sI, if_neg (fun z => absurd z.1 (by decide))]; exact h.2 j hj⟩
theorem BR.ft {b : Nat → Nat} {n : Nat} {M M' : Mem} (h : BR b n M) (hf : ft M M') : BR b n M' := by
  unfold BR
  rw [hf.2 12 (by decide), hf.1.I (by decide)]
  exact h
theorem seen_eq {Z : Nat} {M : Mem} {b : Nat → Nat} {n i : Nat} (h : BR b n M) (hi : i ≤ n) : f_X12_seen Z M (nI i) = some (if n ≤ i then -1 else nI (b i), M) := by
  have hn := h.1
  unfold f_X12_seen
  rw [bd_eq, h.2.1]
  by_cases c : n ≤ i
  · rw [if_pos (by rw [nI_ile (by omega) (by omega)]; exact c), if_pos c]
  · rw [if_neg (by rw [nI_ile (by omega) (by omega)]; exact c), if_neg c, rdI_n (by omega) (by decide), (h.2.2 i (by omega)).2]
theorem letR {Z : Nat} {M : Mem} {v : Nat} (hv : v < 256) : f_X12_isLetter Z M (nI v) = some (bN (isL v), M) := by
  unfold f_X12_isLetter isL
  rw [show (97 : Int32) = nI 97 from rfl, show (122 : Int32) = nI 122 from rfl]
  by_cases d : v < 97
  · rw [if_pos (by rw [nI_ilt (by omega) (by decide)]; exact d), decide_eq_false (by omega)]
    rfl
  · rw [if_neg (by rw [nI_ilt (by omega) (by decide)]; exact d)]
    by_cases e : 122 < v
    · rw [if_pos (by rw [nI_ilt (by omega) (by omega)]; exact e), decide_eq_false (by omega)]
      rfl
    · rw [if_neg (by rw [nI_ilt (by omega) (by omega)]; exact e), decide_eq_true (by omega)]
      rfl
theorem digR {Z : Nat} {M : Mem} {v : Nat} (hv : v < 256) : f_X12_isDigit Z M (nI v) = some (bN (isD v), M) := by
  unfold f_X12_isDigit isD
  rw [show (48 : Int32) = nI 48 from rfl, show (57 : Int32) = nI 57 from rfl]
  by_cases d : v < 48
  · rw [if_pos (by rw [nI_ilt (by omega) (by decide)]; exact d), decide_eq_false (by omega)]
    rfl
  · rw [if_neg (by rw [nI_ilt (by omega) (by decide)]; exact d)]
    by_cases e : 57 < v
    · rw [if_pos (by rw [nI_ilt (by omega) (by omega)]; exact e), decide_eq_false (by omega)]
      rfl
    · rw [if_neg (by rw [nI_ilt (by omega) (by omega)]; exact e), decide_eq_true (by omega)]
      rfl
theorem seenL {Z : Nat} {M : Mem} {b : Nat → Nat} {n i : Nat} (h : BR b n M) (hi : i ≤ n) {α : Type} {K : Int32 → Mem → Option α} : cl (f_X12_seen Z M (nI i)) (fun v27 M28 => cl (f_X12_isLetter Z M28 v27) K) = K (bN (decide (i < n) && isL (b i))) M := by
  rw [seen_eq h hi, cl_some]
  by_cases c : n ≤ i
  · rw [if_pos c, decide_eq_false (by omega), Bool.false_and]
    unfold f_X12_isLetter
    rw [if_pos (by decide), cl_some]
    rfl
  · rw [if_neg c, letR (h.2.2 i (by omega)).1, cl_some, decide_eq_true (by omega), Bool.true_and]
theorem seenD {Z : Nat} {M : Mem} {b : Nat → Nat} {n i : Nat} (h : BR b n M) (hi : i ≤ n) {α : Type} {K : Int32 → Mem → Option α} : cl (f_X12_seen Z M (nI i)) (fun v27 M28 => cl (f_X12_isDigit Z M28 v27) K) = K (bN (decide (i < n) && isD (b i))) M := by
  rw [seen_eq h hi, cl_some]
  by_cases c : n ≤ i
  · rw [if_pos c, decide_eq_false (by omega), Bool.false_and]
    unfold f_X12_isDigit
    rw [if_pos (by decide), cl_some]
    rfl
  · rw [if_neg c, digR (h.2.2 i (by omega)).1, cl_some, decide_eq_true (by omega), Bool.true_and]
theorem token_ok {Z : Nat} {M : Mem} {b : Nat → Nat} {n e : Nat} (hZ : 4000 < Z) (hB : BR b n M) (he : e ≤ n) (h13 : gI M 108 13 = nI e) : ∃ M', f_X12_token Z M = some ((), M') ∧ ft M M' ∧ BR b n M' ∧ TR b n e M' := by
  have hn := hB.1
  have a := spN_ok (p := fun i => decide (b i = 32)) he
  have ea : spN (fun i => decide (b i = 32)) n e = tA b n e := rfl
  rw [ea] at a
  obtain ⟨a1, a2, a3, a4⟩ := a
  have l := spN_ok (p := fun i => isL (b i)) a2
  have el : spN (fun i => isL (b i)) n (tA b n e) = tL b n e := rfl
  rw [el] at l
  obtain ⟨l1, l2, l3, l4⟩ := l
  have d := spN_ok (p := fun i => isD (b i)) a2
  have ed : spN (fun i => isD (b i)) n (tA b n e) = tD b n e := rfl
  rw [ed] at d
  obtain ⟨d1, d2, d3, d4⟩ := d
  have nk : ∀ {k j : Nat}, k ≠ j → ¬ (108 = 108 ∧ k = j) := fun h z => h z.2
  unfold f_X12_token
  refine lpS (σ := Mem) (fun m _ M' => f_X12_token_L0 Z _ m M') (fun q => ∃ M', q = some ((), M') ∧ ft M M' ∧ BR b n M' ∧ TR b n e M') (fun i M' => ft M M' ∧ gI M' 108 13 = nI i) e (tA b n e) (Z := Z) (s := M) a1 (by omega) ⟨ft.rfl, h13⟩ ?_ ?_
  · intro m i M' h1 h2 hI K
    obtain ⟨g1, g3⟩ := hI
    have g2 := hB.ft g1
    have h32 : b i = 32 := of_decide_eq_true (a3 i h1 h2)
    rw [f_X12_token_L0, bd_eq, g3, seen_eq g2 (by omega), cl_some, if_neg (show ¬ n ≤ i by omega), h32, if_pos (by decide), bd_eq, g3, bd_eq, i1, nI_add]
    exact K _ ⟨g1.s (by decide), by rw [gI_sI, if_pos ⟨rfl, rfl⟩]⟩
  · intro m M1 hI
    obtain ⟨g1, g3⟩ := hI
    have g2 := hB.ft g1
    have hk : ∀ (k : Mem → Option (Unit × Mem)), f_X12_token_L0 Z k (m + 1) M1 = k M1 := fun k => by
      rw [f_X12_token_L0, bd_eq, g3, seen_eq g2 (by omega), cl_some]
      by_cases c : n ≤ tA b n e
      · rw [if_pos c, if_neg (by decide)]
      · have h32 : ¬ b (tA b n e) = 32 := of_decide_eq_false (a4 (by omega))
        have hb := (g2.2.2 (tA b n e) (by omega)).1
        rw [if_neg c, if_neg (by rw [show (32 : Int32) = nI 32 from rfl, nI_eq (by omega) (by decide)]; exact h32)]
    rw [hk, bd_eq, g3, bd_eq]
    have f5 : ft M (sI M1 108 14 (nI (tA b n e))) := g1.s (by decide)
    have e4 : gI (sI M1 108 14 (nI (tA b n e))) 108 14 = nI (tA b n e) := by rw [gI_sI, if_pos ⟨rfl, rfl⟩]
    have e5 : gI (sI M1 108 14 (nI (tA b n e))) 108 13 = nI (tA b n e) := by rw [gI_sI, if_neg (nk (by decide))]; exact g3
    generalize sI M1 108 14 (nI (tA b n e)) = M2 at f5 e4 e5 ⊢
    have g5 := hB.ft f5
    rw [bd_eq, e5, seen_eq g5 (by omega), cl_some]
    by_cases c : n ≤ tA b n e
    · have ek : tK b n e = 0 := by unfold tK; rw [if_pos c]
      have ee : tE b n e = tA b n e := by unfold tE; rw [if_pos c]
      rw [if_pos c, if_pos (show (-1 : Int32) = -1 from rfl), bd_eq]
      refine ⟨_, rfl, f5.s (by decide), hB.ft (f5.s (by decide)), ?_, ?_, ?_, fun z => absurd z (by omega), fun z => absurd z (by omega)⟩
      · rw [gI_sI, if_pos ⟨rfl, rfl⟩, ek]
        rfl
      · rw [gI_sI, if_neg (nk (by decide))]
        exact e4
      · rw [gI_sI, if_neg (nk (by decide)), ee]
        exact e5
    · have hb := (g5.2.2 (tA b n e) (by omega)).1
      rw [if_neg c, if_neg (nI_ne_neg (by omega)), letR hb, cl_some]
      by_cases cl' : isL (b (tA b n e)) = true
      · have ee : tE b n e = tL b n e := by unfold tE; rw [if_neg c, if_pos cl']
        rw [if_neg (by rw [bN0, cl']; decide), bd_eq]
        refine lpS (σ := Mem) (fun m _ M' => f_X12_token_L68 Z (fun (M70 : Mem) => bd (gI M70 (108) 17) (fun v71 => (if v71 ≤ (8 : Int32) then bd (sI M70 (108) 15 (1 : Int32)) (fun M72 => some ((), M72)) else bd (sI M70 (108) 15 (5 : Int32)) (fun M73 => some ((), M73))))) m M') (fun q => ∃ M', q = some ((), M') ∧ ft M M' ∧ BR b n M' ∧ TR b n e M') (fun i M' => ft M M' ∧ gI M' 108 14 = nI (tA b n e) ∧ gI M' 108 13 = nI i ∧ gI M' 108 17 = nI (i - tA b n e) ∧ ∀ k, k < i - tA b n e → k < 8 → gI M' 115 k = nI (b (tA b n e + k))) (tA b n e) (tL b n e) (Z := Z) (s := sI M2 108 17 0) l1 (by omega) ⟨f5.s (by decide), by rw [gI_sI, if_neg (nk (by decide))]; exact e4, by rw [gI_sI, if_neg (nk (by decide))]; exact e5, by rw [gI_sI, if_pos ⟨rfl, rfl⟩, Nat.sub_self]; rfl, fun k hk => absurd hk (by omega)⟩ ?_ ?_
        · intro m i M' h1 h2 hI K
          obtain ⟨q1, q3, q4, q5, q6⟩ := hI
          have q2 := hB.ft q1
          have hl : isL (b i) = true := l3 i h1 h2
          have tail : ∀ M3, ft M M3 → gI M3 108 14 = nI (tA b n e) → gI M3 108 13 = nI i → gI M3 108 17 = nI (i - tA b n e) → (∀ k, k < i + 1 - tA b n e → k < 8 → gI M3 115 k = nI (b (tA b n e + k))) → ∃ M', bd (gI M3 (108) 17) (fun v57 => bd (sI M3 (108) 17 (v57 + (1 : Int32))) (fun M58 => bd (gI M58 (108) 13) (fun v59 => bd (sI M58 (108) 13 (v59 + (1 : Int32))) (fun M60 => f_X12_token_L68 Z (fun (M70 : Mem) => bd (gI M70 (108) 17) (fun v71 => (if v71 ≤ (8 : Int32) then bd (sI M70 (108) 15 (1 : Int32)) (fun M72 => some ((), M72)) else bd (sI M70 (108) 15 (5 : Int32)) (fun M73 => some ((), M73))))) m M60)))) = some ((), M') ∧ ft M M' ∧ BR b n M' ∧ TR b n e M' := fun M3 r1 r2 r3 r4 r5 => by
            rw [bd_eq, r4, bd_eq, bd_eq, gI_sI, if_neg (nk (by decide)), r3, bd_eq, show nI i + (1 : Int32) = nI (i + 1) from nI_add i 1, show nI (i - tA b n e) + (1 : Int32) = nI (i - tA b n e + 1) from nI_add _ 1]
            exact K _ ⟨(r1.s (by decide)).s (by decide), by rw [gI_sI, if_neg (nk (by decide)), gI_sI, if_neg (nk (by decide))]; exact r2, by rw [gI_sI, if_pos ⟨rfl, rfl⟩], by rw [gI_sI, if_neg (nk (by decide)), gI_sI, if_pos ⟨rfl, rfl⟩, show i + 1 - tA b n e = i - tA b n e + 1 by omega], fun k hk h8 => by rw [gI_sI, if_neg (fun z => absurd z.1 (by decide)), gI_sI, if_neg (fun z => absurd z.1 (by decide))]; exact r5 k hk h8⟩
          rw [f_X12_token_L68, bd_eq, q4, seenL q2 (by omega), if_neg (by rw [bN0, hl, decide_eq_true (show i < n by omega)]; decide), bd_eq, q5, jn_eq]
          by_cases c8 : 8 ≤ i - tA b n e
          · rw [if_pos (by rw [show (8 : Int32) = nI 8 from rfl, nI_ile (by decide) (by omega)]; exact c8)]
            exact tail M' q1 q3 q4 q5 (fun k hk h8 => q6 k (by omega) h8)
          · rw [if_neg (by rw [show (8 : Int32) = nI 8 from rfl, nI_ile (by decide) (by omega)]; exact c8), bd_eq, bd_eq, q4, seen_eq q2 (by omega), cl_some, if_neg (show ¬ n ≤ i by omega), wrI_n (by omega) (by decide)]
            refine tail _ q1.w (by rw [gI_sI, if_neg (fun z => absurd z.1 (by decide))]; exact q3) (by rw [gI_sI, if_neg (fun z => absurd z.1 (by decide))]; exact q4) (by rw [gI_sI, if_neg (fun z => absurd z.1 (by decide))]; exact q5) (fun k hk h8 => ?_)
            rw [gI_sI]
            by_cases z : k = i - tA b n e
            · rw [if_pos ⟨rfl, z⟩, show tA b n e + k = i by omega]
            · rw [if_neg (fun y => z y.2)]
              exact q6 k (by omega) h8
        · intro m M3 hI
          obtain ⟨q1, q3, q4, q5, q6⟩ := hI
          have q2 := hB.ft q1
          have hk : ∀ (k : Mem → Option (Unit × Mem)), f_X12_token_L68 Z k (m + 1) M3 = k M3 := fun k => by
            have hz : (decide (tL b n e < n) && isL (b (tL b n e))) = false := by
              by_cases c2 : tL b n e < n
              · rw [show isL (b (tL b n e)) = false from l4 c2, Bool.and_false]
              · rw [decide_eq_false c2, Bool.false_and]
            rw [f_X12_token_L68, bd_eq, q4, seenL q2 (by omega), if_pos (by rw [bN0]; exact hz)]
          rw [hk, bd_eq, q5]
          have ek : tK b n e = if 8 < tL b n e - tA b n e then 5 else 1 := by unfold tK; rw [if_neg c, if_pos cl']
          have e8 : (8 : Int32) = nI 8 := rfl
          by_cases c3 : 8 < tL b n e - tA b n e
          · rw [if_pos c3] at ek
            rw [if_neg (by rw [e8, nI_ile (by omega) (by omega)]; omega), bd_eq]
            refine ⟨_, rfl, q1.s (by decide), hB.ft (q1.s (by decide)), ?_, ?_, ?_, fun z => absurd z (by omega), fun z => absurd z (by omega)⟩
            · rw [gI_sI, if_pos ⟨rfl, rfl⟩, ek]
              rfl
            · rw [gI_sI, if_neg (nk (by decide))]
              exact q3
            · rw [gI_sI, if_neg (nk (by decide)), ee]
              exact q4
          · rw [if_neg c3] at ek
            rw [if_pos (by rw [e8, nI_ile (by omega) (by omega)]; omega), bd_eq]
            refine ⟨_, rfl, q1.s (by decide), hB.ft (q1.s (by decide)), ?_, ?_, ?_, fun z => absurd z (by omega), fun _ => ⟨?_, fun k hk => ?_⟩⟩
            · rw [gI_sI, if_pos ⟨rfl, rfl⟩, ek]
              rfl
            · rw [gI_sI, if_neg (nk (by decide))]
              exact q3
            · rw [gI_sI, if_neg (nk (by decide)), ee]
              exact q4
            · rw [gI_sI, if_neg (nk (by decide)), ee]
              exact q5
            · rw [ee] at hk
              rw [gI_sI, if_neg (fun z => absurd z.1 (by decide))]
              exact q6 k hk (by omega)
      · have cl2 : isL (b (tA b n e)) = false := by simpa using cl'
        rw [if_pos (by rw [bN0]; exact cl2), digR hb, cl_some]
        by_cases cd : isD (b (tA b n e)) = true
        · have ee : tE b n e = tD b n e := by unfold tE; rw [if_neg c, if_neg cl', if_pos cd]
          rw [if_neg (by rw [bN0, cd]; decide), bd_eq, show f_X12_token_L166 Z = fun k n x M => f_X12_token_L166 Z k n x M from rfl]
          dsimp only
          rw [show (0 : Int32) = nI (tA b n e - tA b n e) by rw [Nat.sub_self]; rfl]
          refine lpS (σ := Mem) (fun m i M' => f_X12_token_L166 Z (fun (y43 : Int32) (M44 : Mem) => (if y43 ≤ (5 : Int32) then bd (sI M44 (108) 15 (2 : Int32)) (fun M45 => some ((), M45)) else bd (sI M44 (108) 15 (5 : Int32)) (fun M46 => some ((), M46)))) m (nI (i - tA b n e)) M') (fun q => ∃ M', q = some ((), M') ∧ ft M M' ∧ BR b n M' ∧ TR b n e M') (fun i M' => ft M M' ∧ gI M' 108 14 = nI (tA b n e) ∧ gI M' 108 13 = nI i ∧ (i - tA b n e ≤ 5 → gI M' 108 18 = nI (dv b (tA b n e) (i - tA b n e)))) (tA b n e) (tD b n e) (Z := Z) (s := sI M2 108 18 (nI (tA b n e - tA b n e))) d1 (by omega) ⟨f5.s (by decide), by rw [gI_sI, if_neg (nk (by decide))]; exact e4, by rw [gI_sI, if_neg (nk (by decide))]; exact e5, fun _ => by rw [gI_sI, if_pos ⟨rfl, rfl⟩, Nat.sub_self]; rfl⟩ ?_ ?_
          · intro m i M' h1 h2 hI K
            obtain ⟨q1, q3, q4, q5⟩ := hI
            have q2 := hB.ft q1
            have hl : isD (b i) = true := d3 i h1 h2
            have hd : 48 ≤ b i ∧ b i ≤ 57 := of_decide_eq_true hl
            have tail : ∀ v, (i + 1 - tA b n e ≤ 5 → v = nI (dv b (tA b n e) (i + 1 - tA b n e))) → ∃ M'_1, bd (sI M' (108) 18 v) (fun M32 => bd (gI M32 (108) 13) (fun v33 => bd (sI M32 (108) 13 (v33 + (1 : Int32))) (fun M34 => f_X12_token_L166 Z (fun (y43 : Int32) (M44 : Mem) => (if y43 ≤ (5 : Int32) then bd (sI M44 (108) 15 (2 : Int32)) (fun M45 => some ((), M45)) else bd (sI M44 (108) 15 (5 : Int32)) (fun M46 => some ((), M46)))) m (nI (i - tA b n e) + (1 : Int32)) M34))) = some ((), M'_1) ∧ ft M M'_1 ∧ BR b n M'_1 ∧ TR b n e M'_1 := fun v hv => by
              rw [bd_eq, bd_eq, gI_sI, if_neg (nk (by decide)), q4, bd_eq, show nI i + (1 : Int32) = nI (i + 1) from nI_add i 1, show nI (i - tA b n e) + (1 : Int32) = nI (i + 1 - tA b n e) by rw [show i + 1 - tA b n e = i - tA b n e + 1 by omega]; exact nI_add _ 1]
              exact K _ ⟨(q1.s (by decide)).s (by decide), by rw [gI_sI, if_neg (nk (by decide)), gI_sI, if_neg (nk (by decide))]; exact q3, by rw [gI_sI, if_pos ⟨rfl, rfl⟩], fun z => by rw [gI_sI, if_neg (nk (by decide)), gI_sI, if_pos ⟨rfl, rfl⟩]; exact hv z⟩
            rw [f_X12_token_L166, bd_eq, q4, seenD q2 (by omega), if_neg (by rw [bN0, hl, decide_eq_true (show i < n by omega)]; decide), jn_eq]
            by_cases c5 : 5 ≤ i - tA b n e
            · rw [if_pos (by rw [show (5 : Int32) = nI 5 from rfl, nI_ile (by decide) (by omega)]; exact c5)]
              exact tail 0 (fun z => absurd z (by omega))
            · rw [if_neg (by rw [show (5 : Int32) = nI 5 from rfl, nI_ile (by decide) (by omega)]; exact c5), bd_eq, q5 (by omega), bd_eq, q4, seen_eq q2 (by omega), cl_some, if_neg (show ¬ n ≤ i by omega)]
              refine tail _ (fun _ => ?_)
              dsimp only
              rw [show (10 : Int32) = nI 10 from rfl, show (48 : Int32) = nI 48 from rfl, nI_mul, nI_add, nI_sub (by omega), show i + 1 - tA b n e = (i - tA b n e) + 1 by omega]
              show _ = nI (dv b (tA b n e) (i - tA b n e) * 10 + (b (tA b n e + (i - tA b n e)) - 48))
              rw [show tA b n e + (i - tA b n e) = i by omega]
              congr 1
              omega
          · intro m M3 hI
            obtain ⟨q1, q3, q4, q5⟩ := hI
            have q2 := hB.ft q1
            have hk : ∀ (k : Int32 → Mem → Option (Unit × Mem)) x, f_X12_token_L166 Z k (m + 1) x M3 = k x M3 := fun k x => by
              have hz : (decide (tD b n e < n) && isD (b (tD b n e))) = false := by
                by_cases c2 : tD b n e < n
                · rw [show isD (b (tD b n e)) = false from d4 c2, Bool.and_false]
                · rw [decide_eq_false c2, Bool.false_and]
              rw [f_X12_token_L166, bd_eq, q4, seenD q2 (by omega), if_pos (by rw [bN0]; exact hz)]
            rw [hk]
            have ek : tK b n e = if 5 < tD b n e - tA b n e then 5 else 2 := by unfold tK; rw [if_neg c, if_neg cl', if_pos cd]
            have e50 : (5 : Int32) = nI 5 := rfl
            by_cases c3 : 5 < tD b n e - tA b n e
            · rw [if_pos c3] at ek
              rw [if_neg (by rw [e50, nI_ile (by omega) (by omega)]; omega), bd_eq]
              refine ⟨_, rfl, q1.s (by decide), hB.ft (q1.s (by decide)), ?_, ?_, ?_, fun z => absurd z (by omega), fun z => absurd z (by omega)⟩
              · rw [gI_sI, if_pos ⟨rfl, rfl⟩, ek]
                rfl
              · rw [gI_sI, if_neg (nk (by decide))]
                exact q3
              · rw [gI_sI, if_neg (nk (by decide)), ee]
                exact q4
            · rw [if_neg c3] at ek
              rw [if_pos (by rw [e50, nI_ile (by omega) (by omega)]; omega), bd_eq]
              refine ⟨_, rfl, q1.s (by decide), hB.ft (q1.s (by decide)), ?_, ?_, ?_, fun _ => ?_, fun z => absurd z (by omega)⟩
              · rw [gI_sI, if_pos ⟨rfl, rfl⟩, ek]
                rfl
              · rw [gI_sI, if_neg (nk (by decide))]
                exact q3
              · rw [gI_sI, if_neg (nk (by decide)), ee]
                exact q4
              · rw [gI_sI, if_neg (nk (by decide))]
                exact q5 (by omega)
        · have cd2 : isD (b (tA b n e)) = false := by simpa using cd
          have ee : tE b n e = tA b n e + 1 := by unfold tE; rw [if_neg c, if_neg cl', if_neg cd]
          have fin : ∀ k j, tK b n e = k → kR k = j → k ≠ 2 → k ≠ 1 → ∃ M', bd (sI M2 108 15 (nI j)) (fun M19 => bd (gI M19 (108) 13) (fun v20 => bd (sI M19 (108) 13 (v20 + (1 : Int32))) (fun M21 => some ((), M21)))) = some ((), M') ∧ ft M M' ∧ BR b n M' ∧ TR b n e M' := fun k j ek ej k2 k1 => by
            rw [bd_eq, bd_eq, gI_sI, if_neg (nk (by decide)), e5, bd_eq, i1, nI_add]
            refine ⟨_, rfl, (f5.s (by decide)).s (by decide), hB.ft ((f5.s (by decide)).s (by decide)), ?_, ?_, ?_, fun z => absurd z (by omega), fun z => absurd z (by omega)⟩
            · rw [gI_sI, if_neg (nk (by decide)), gI_sI, if_pos ⟨rfl, rfl⟩, ek, ej]
            · rw [gI_sI, if_neg (nk (by decide)), gI_sI, if_neg (nk (by decide))]
              exact e4
            · rw [gI_sI, if_pos ⟨rfl, rfl⟩, ee]
          rw [if_pos (by rw [bN0]; exact cd2), jn_eq]
          have ek : tK b n e = if b (tA b n e) = 45 then 3 else if b (tA b n e) = 59 then 4 else 5 := by unfold tK; rw [if_neg c, if_neg cl', if_neg cd]
          by_cases c1 : b (tA b n e) = 45
          · rw [if_pos c1] at ek
            rw [c1, if_neg (show ¬ nI 45 = 59 by decide), if_pos (show nI 45 = 45 from rfl)]
            exact fin 3 4 ek rfl (by decide) (by decide)
          · rw [if_neg c1] at ek
            by_cases c2 : b (tA b n e) = 59
            · rw [if_pos c2] at ek
              rw [c2, if_pos (show nI 59 = 59 from rfl)]
              exact fin 4 3 ek rfl (by decide) (by decide)
            · rw [if_neg c2] at ek
              rw [if_neg (by rw [show (59 : Int32) = nI 59 from rfl, nI_eq (by omega) (by decide)]; exact c2), if_neg (by rw [show (45 : Int32) = nI 45 from rfl, nI_eq (by omega) (by decide)]; exact c1)]
              exact fin 5 5 ek rfl (by decide) (by decide)
