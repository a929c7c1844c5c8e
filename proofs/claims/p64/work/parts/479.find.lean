/-! the best pure set -/
def okS (P S : Nat → Int32) (st H : Nat) (lim : Nat → Nat) (c : Nat → Nat) : Bool := al S c (cN P) && hd P (wPure c) st H lim (cB P)
/-- of the sets below k: how many hold, the greatest gain, the first set that has it -/
def FB (P S : Nat → Int32) (st H : Nat) (lim : Nat → Nat) : Nat → Nat × Int64 × (Nat → Nat)
  | 0 => (0, -9223372036854775808, fun _ => 0)
  | k + 1 => match cho P k with
    | none => FB P S st H lim k
    | some c => if okS P S st H lim c then ((FB P S st H lim k).1 + 1, if (FB P S st H lim k).1 = 0 ∨ (FB P S st H lim k).2.1 < gRun P (wPure c) st H then (gRun P (wPure c) st H, c) else (FB P S st H lim k).2) else FB P S st H lim k
theorem FB_s {P S : Nat → Int32} {st H : Nat} {lim : Nat → Nat} {k : Nat} {c : Nat → Nat} (h : cho P k = some c) : FB P S st H lim (k + 1) = if okS P S st H lim c then ((FB P S st H lim k).1 + 1, if (FB P S st H lim k).1 = 0 ∨ (FB P S st H lim k).2.1 < gRun P (wPure c) st H then (gRun P (wPure c) st H, c) else (FB P S st H lim k).2) else FB P S st H lim k := by
  show (match cho P k with
    | none => FB P S st H lim k
    | some c => if okS P S st H lim c then ((FB P S st H lim k).1 + 1, if (FB P S st H lim k).1 = 0 ∨ (FB P S st H lim k).2.1 < gRun P (wPure c) st H then (gRun P (wPure c) st H, c) else (FB P S st H lim k).2) else FB P S st H lim k) = _
  rw [h]
theorem FB_ok {P S : Nat → Int32} {st H : Nat} {lim : Nat → Nat} (hV : VP P) (h1 : 1 ≤ H) (hH : H ≤ 5) : ∀ k, (FB P S st H lim k).1 ≤ k ∧ ((FB P S st H lim k).1 = 0 → (FB P S st H lim k).2.1 = -9223372036854775808) ∧ (0 < (FB P S st H lim k).1 → -9223372036854775808 < (FB P S st H lim k).2.1 ∧ CHo P (FB P S st H lim k).2.2 ∧ ∀ y, cN P ≤ y → (FB P S st H lim k).2.2 y = 0)
  | 0 => ⟨Nat.le_refl _, fun _ => rfl, fun z => absurd z (Nat.lt_irrefl 0)⟩
  | k + 1 => by
    obtain ⟨a1, a2, a3⟩ := FB_ok (S := S) (st := st) (lim := lim) hV h1 hH k
    cases q : cho P k with
    | none =>
      have e : FB P S st H lim (k + 1) = FB P S st H lim k := by
        show (match cho P k with
          | none => FB P S st H lim k
          | some c => if okS P S st H lim c then ((FB P S st H lim k).1 + 1, if (FB P S st H lim k).1 = 0 ∨ (FB P S st H lim k).2.1 < gRun P (wPure c) st H then (gRun P (wPure c) st H, c) else (FB P S st H lim k).2) else FB P S st H lim k) = _
        rw [q]
      rw [e]
      exact ⟨by omega, a2, a3⟩
    | some c =>
      rw [FB_s q]
      by_cases g : okS P S st H lim c = true
      · rw [if_pos g]
        refine ⟨by show _ + 1 ≤ _; omega, fun z => absurd z (by show ¬ _ + 1 = 0; omega), fun _ => ?_⟩
        dsimp only
        by_cases d : (FB P S st H lim k).1 = 0 ∨ (FB P S st H lim k).2.1 < gRun P (wPure c) st H
        · rw [if_pos d]
          have hc := (cho_ok hV k c q).1
          exact ⟨gRun_min hV (wPure_WOK hV hc) h1 hH, hc, cho_0 k c q⟩
        · rw [if_neg d]
          exact a3 (by omega)
      · rw [if_neg g]
        exact ⟨by omega, a2, a3⟩
/-- the class's memory for this -/
def PM (P S : Nat → Int32) (st H : Nat) (M : Mem) : Prop := RP P M 3 ∧ RS P M 10 S ∧ gI M 10 3 = nI st ∧ gI M 10 4 = nI H ∧ gI M 96 5 = nI st ∧ gI M 96 6 = nI H ∧ TAB P st H 729 M
theorem PM.fr {P S : Nat → Int32} {st H : Nat} {M M' : Mem} {l : List Nat} (h : PM P S st H M) (hf : fr l M M') (h1 : ∀ o, 3 ≤ o → o ≤ 15 → o ∉ l) (h97 : 97 ∉ l) (h98 : 98 ∉ l) (e5 : gI M' 96 5 = gI M 96 5) (e6 : gI M' 96 6 = gI M 96 6) : PM P S st H M' := by
  obtain ⟨a1, a2, a3, a4, a5, a6, a7⟩ := h
  refine ⟨a1.same (fun o a b => hf.I (h1 o a (by omega))), a2.same (fun i hi => hf.I (h1 (10 + i) (by omega) (by omega))), by rw [hf.I (h1 10 (by decide) (by decide))]; exact a3, by rw [hf.I (h1 10 (by decide) (by decide))]; exact a4, by rw [e5]; exact a5, by rw [e6]; exact a6, fun i hi c hc => ?_⟩
  rw [hf.L h97, hf.L h98]
  exact a7 i hi c hc
theorem PM.n {P S : Nat → Int32} {st H : Nat} {M : Mem} (h : PM P S st H M) (hV : VP P) : gI M 3 0 = nI (cN P) := (h.1.chC hV).1
theorem PM.m {P S : Nat → Int32} {st H : Nat} {M : Mem} (h : PM P S st H M) (hV : VP P) : ∀ y, y < 6 → gI M 4 y = nI (cM P y) := fun y hy => by
  rw [show (4 : Nat) = 3 + 1 from rfl, h.1.2.2.1 y hy, hV.at (by omega) (by omega), cM, if_pos hy]
theorem PM.b {P S : Nat → Int32} {st H : Nat} {M : Mem} (h : PM P S st H M) (hV : VP P) : gI M 3 1 = nI (cB P) := h.1.2.1.trans hV.b
/-- fill and begin -/
theorem pureC {Z : Nat} {M : Mem} {P S : Nat → Int32} {st H : Nat} (hV : VP P) (hR : RP P M 3) (hS : RS P M 10 S) (hZ : 4000 < Z) (h3 : gI M 10 3 = nI st) (h4 : gI M 10 4 = nI H) (hst : st < cN P) (h1 : 1 ≤ H) (hH : H ≤ 5) (hC : Cache P M) {α : Type} (kk : Int32 → Mem → Option α) : ∃ M', cl (f_X5_fill Z M) (fun v1 M2 => cl (f_X5_begin Z M2) kk) = kk 1 M' ∧ fr lF M M' ∧ PM P S st H M' ∧ SetC P M' 0 (fun _ => 0) := by
  obtain ⟨M1, e1, f1, a5, a6, at1⟩ := fill_ok (Z := Z) hV hR hZ h3 h4 hst h1 hH hC
  obtain ⟨M2, e2, f2, b5, b6, s2⟩ := begin_ok (Z := Z) (M := M1) (P := P) (by omega)
  have no : ∀ o, 3 ≤ o → o ≤ 15 → o ∉ lF := fun o a b z => by
    have := lF_in.mp z
    omega
  have p1 : PM P S st H M1 := ⟨hR.same (fun o a b => f1.I (no o a (by omega))), hS.same (fun i hi => f1.I (no (10 + i) (by omega) (by omega))), by rw [f1.I (by decide)]; exact h3, by rw [f1.I (by decide)]; exact h4, a5, a6, at1⟩
  rw [e1, cl_some, e2, cl_some]
  exact ⟨M2, rfl, f1.trans (f2.mono (by decide)), p1.fr f2 (fun o a b => by simp; omega) (by decide) (by decide) b5 b6, s2⟩
def lB9 : List Nat := [16, 17, 18, 96, 97, 98, 99, 100, 101]
theorem lB_in {o : Nat} : o ∈ lB9 ↔ (16 ≤ o ∧ o ≤ 18) ∨ (96 ≤ o ∧ o ≤ 101) := by
  unfold lB9
  simp only [List.mem_cons, List.not_mem_nil, or_false]
  omega
theorem findBest_ok {Z : Nat} {M : Mem} {P S : Nat → Int32} {st H : Nat} (hV : VP P) (hR : RP P M 3) (hS : RS P M 10 S) (hZ : 4000 < Z) (h3 : gI M 10 3 = nI st) (h4 : gI M 10 4 = nI H) (hst : st < cN P) (h1 : 1 ≤ H) (hH : H ≤ 5) (hC : Cache P M) {p0 p1 : Int32} {lim : Nat → Nat} (hl : ∀ b, b < cB P → (if nI b = p0 then gI M 13 b + p1 else gI M 13 b) = nI (lim b) ∧ lim b ≤ 20000) {K : Nat} (k1 : 1 ≤ K) (k2 : K ≤ 729) (k3 : ∀ k, k < K → ∃ c, cho P k = some c) (k4 : cho P K = none) :
    ∃ M', f_X5_findBest Z M p0 p1 = some ((FB P S st H lim K).2.1, M') ∧ fr lB9 M M' ∧ PM P S st H M' ∧ (0 < (FB P S st H lim K).1 → ∀ y, y < 6 → gI M' 101 y = nI ((FB P S st H lim K).2.2 y)) := by
  have hN := hV.2.1
  obtain ⟨M0, e0, f0, p0', s0⟩ := pureC (Z := Z) hV hR hS hZ h3 h4 hst h1 hH hC (fun v3 M4 => f_X5_findBest_L17 Z p0 p1 Z (-9223372036854775808 : Int64) v3 (0 : Int32) M4)
  unfold f_X5_findBest
  rw [e0, i0]
  refine lpS (σ := Int32 × Mem) (fun n k s => f_X5_findBest_L17 Z p0 p1 n (FB P S st H lim k).2.1 s.1 (nI k) s.2) (fun q => ∃ M', q = some ((FB P S st H lim K).2.1, M') ∧ fr lB9 M M' ∧ PM P S st H M' ∧ (0 < (FB P S st H lim K).1 → ∀ y, y < 6 → gI M' 101 y = nI ((FB P S st H lim K).2.2 y))) (fun k s => fr lB9 M s.2 ∧ PM P S st H s.2 ∧ (0 < (FB P S st H lim k).1 → ∀ y, y < 6 → gI s.2 101 y = nI ((FB P S st H lim k).2.2 y)) ∧ (k < K → s.1 = 1 ∧ ∃ c, SetC P s.2 k c) ∧ (k = K → s.1 = 0)) 0 K (s := (1, M0)) (by omega) (by omega) ⟨f0.mono (by decide), p0', fun z => absurd z (Nat.lt_irrefl 0), fun _ => ⟨rfl, _, s0⟩, fun z => absurd z (by omega)⟩ ?_ ?_
  · intro n k s _ hk hI KK
    obtain ⟨x6, M1⟩ := s
    obtain ⟨g1, g2, g3, g4, _⟩ := hI
    obtain ⟨e6, c, hs⟩ := g4 hk
    dsimp only at g1 g2 g3 e6 hs KK ⊢
    subst e6
    have hch := (cho_ok hV k c hs.1).1
    have hK := wPure_WOK hV hch
    obtain ⟨t1, t2⟩ := g2.2.2.2.2.2.2 k (by omega) c hs.1
    have hF := FB_ok (S := S) (st := st) (lim := lim) hV h1 hH k
    have m13 : gI M1 13 = gI M 13 := g1.I (by decide)
    have tail : ∀ (v : Int64) (M2 : Mem), v = (FB P S st H lim (k + 1)).2.1 → fr [101] M1 M2 → (0 < (FB P S st H lim (k + 1)).1 → ∀ y, y < 6 → gI M2 101 y = nI ((FB P S st H lim (k + 1)).2.2 y)) → ∃ M', cl (f_X5_moveOn Z M2) (fun v12 M13 => f_X5_findBest_L17 Z p0 p1 n v v12 (nI k + (1 : Int32)) M13) = some ((FB P S st H lim K).2.1, M') ∧ fr lB9 M M' ∧ PM P S st H M' ∧ (0 < (FB P S st H lim K).1 → ∀ y, y < 6 → gI M' 101 y = nI ((FB P S st H lim K).2.2 y)) := fun v M2 ev f2 h101 => by
      have P2 : PM P S st H M2 := g2.fr f2 (fun o a b => by simp; omega) (by decide) (by decide) (by rw [f2.I (by decide)]) (by rw [f2.I (by decide)])
      obtain ⟨bb, M3, e3, f3, u5, u6, alt⟩ := moveOn_ok (Z := Z) (M := M2) hV (by omega) (P2.n hV) (P2.m hV) (hs.fr f2 (by decide) (by decide))
      rw [e3, cl_some, ev, i1, nI_add]
      refine KK (bb, M3) ⟨(g1.trans (f2.mono (by decide))).trans (f3.mono (by decide)), P2.fr f3 (fun o a b => by simp; omega) (by decide) (by decide) u5 u6, fun z y hy => by rw [f3.I (by decide)]; exact h101 z y hy, fun hlt => ?_, fun heq => ?_⟩
      · rcases alt with ⟨a1, a2⟩ | ⟨_, a2⟩
        · exact ⟨a1, a2⟩
        · obtain ⟨c2, hc2⟩ := k3 (k + 1) hlt
          exact absurd (hc2.symm.trans a2) (by simp)
      · rcases alt with ⟨_, c2, a2⟩ | ⟨a1, _⟩
        · have := a2.1
          rw [heq, k4] at this
          exact absurd this (by simp)
        · exact a1
    rw [f_X5_findBest_L17, if_neg (by rw [show (729 : Int32) = nI 729 from rfl, nI_ile (by decide) (by omega)]; omega), if_neg (by decide), isPermittedSet_eq hV g2.2.1 (g2.n hV) (by omega) hch hs.2.1, cl_some, jn_eq]
    by_cases b1 : al S c (cN P) = true
    · rw [if_neg (by rw [bN0, b1]; decide), holds_eq hV (by omega) h1 hH hK (k := k) (by omega) (g2.b hV) g2.2.2.2.1 hs.2.2 t2 (lim := lim) (fun b hb => by rw [m13]; exact hl b hb), cl_some]
      by_cases b2 : hd P (wPure c) st H lim (cB P) = true
      · have eo : okS P S st H lim c = true := by
          unfold okS
          rw [b1, b2]
          rfl
        have eF := FB_s (S := S) (st := st) (H := H) (lim := lim) hs.1
        rw [if_pos eo] at eF
        rw [if_neg (by rw [bN0, b2]; decide), bd_eq, hs.2.2, rdL_n (by omega) (by decide), t1]
        by_cases d : gRun P (wPure c) st H ≤ (FB P S st H lim k).2.1
        · have hn : ¬ ((FB P S st H lim k).1 = 0 ∨ (FB P S st H lim k).2.1 < gRun P (wPure c) st H) := fun z => by
            rcases z with z | z
            · have m1 := gRun_min (st := st) hV hK h1 hH
              rw [hF.2.1 z] at d
              exact Int64.lt_irrefl (Int64.lt_of_lt_of_le m1 d)
            · exact Int64.lt_irrefl (Int64.lt_of_lt_of_le z d)
          rw [if_neg hn] at eF
          have en : (FB P S st H lim k).1 ≠ 0 := fun z => hn (Or.inl z)
          rw [if_pos d]
          dsimp only
          exact tail _ M1 (by rw [eF]) fr.rfl (fun _ y hy => by rw [eF]; exact g3 (by omega) y hy)
        · have hn : (FB P S st H lim k).1 = 0 ∨ (FB P S st H lim k).2.1 < gRun P (wPure c) st H := Or.inr (Int64.not_le.mp d)
          rw [if_pos hn] at eF
          obtain ⟨_, M2, e2, f2, q2⟩ := copyRow_ok (Z := Z) (M := M1) (a := 99) (b := 101) (n := 6) (by decide)
          rw [if_neg d, bd_eq, rdL_n (by omega) (by decide), t1, e2, cl_some]
          dsimp only
          exact tail _ M2 (by rw [eF]) f2 (fun _ y hy => by rw [eF, q2 y hy]; exact hs.2.1 y hy)
      · have b3 : hd P (wPure c) st H lim (cB P) = false := by simpa using b2
        have eo : ¬ okS P S st H lim c = true := by
          unfold okS
          rw [b3, Bool.and_false]
          decide
        have eF := FB_s (S := S) (st := st) (H := H) (lim := lim) hs.1
        rw [if_neg eo] at eF
        rw [if_pos (by rw [bN0]; exact b3)]
        dsimp only
        exact tail _ M1 (by rw [eF]) fr.rfl (by rw [eF]; exact g3)
    · have b3 : al S c (cN P) = false := by simpa using b1
      have eo : ¬ okS P S st H lim c = true := by
        unfold okS
        rw [b3, Bool.false_and]
        decide
      have eF := FB_s (S := S) (st := st) (H := H) (lim := lim) hs.1
      rw [if_neg eo] at eF
      rw [if_pos (by rw [bN0]; exact b3)]
      dsimp only
      exact tail _ M1 (by rw [eF]) fr.rfl (by rw [eF]; exact g3)
  · intro n s hI
    obtain ⟨x6, M1⟩ := s
    obtain ⟨g1, g2, g3, _, g5⟩ := hI
    dsimp only at g1 g2 g3 g5 ⊢
    have e6 := g5 rfl
    subst e6
    rw [f_X5_findBest_L17, if_pos (show (0 : Int32) = 0 from rfl), ite_self]
    exact ⟨M1, rfl, g1, g2, g3⟩
