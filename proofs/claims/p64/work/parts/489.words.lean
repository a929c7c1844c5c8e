/-! words and numbers -/
def wL (t : Nat) : List Nat := WL.getD t []
def eqW (b : Nat → Nat) (a : Nat) (w : List Nat) : Nat → Bool
  | 0 => true
  | k + 1 => eqW b a w k && decide (b (a + k) = w.getD k 0)
theorem eqW_no {b : Nat → Nat} {a : Nat} {w : List Nat} {i : Nat} (h : ¬ b (a + i) = w.getD i 0) : ∀ n, i < n → eqW b a w n = false
  | 0, hn => absurd hn (by omega)
  | n + 1, hn => by
    show (eqW b a w n && decide (b (a + n) = w.getD n 0)) = false
    by_cases e : i = n
    · rw [← e, decide_eq_false h, Bool.and_false]
    · rw [eqW_no h n (by omega), Bool.false_and]
def isW (b : Nat → Nat) (n e t : Nat) : Bool := decide (tK b n e = 1) && (decide (tE b n e - tA b n e = (wL t).length) && eqW b (tA b n e) (wL t) (wL t).length)
theorem wL_ok : ∀ t, t < 10 → (wL t).length ≤ 8 ∧ ∀ k, k < 8 → (wL t).getD k 0 < 128 := by decide
theorem rdS_n {β : Type} {t k : Nat} {K : Int32 → Option β} (h : k < (wL t).length) (h8 : (wL t).length ≤ 8) : rdS t (nI k) K = K (nI ((wL t).getD k 0)) := by
  have e := nI_clamp (n := k) (by omega)
  have : inB (nI k) (WL.getD t []).length = true := by
    simp only [inB, Bool.and_eq_true, decide_eq_true_eq, e]
    exact ⟨nI_pos' (by omega), h⟩
  unfold rdS
  rw [if_pos this, e]
  rfl
theorem tE_w {b : Nat → Nat} {n e : Nat} (h : tK b n e = 1) : tE b n e ≤ n → tA b n e + (tE b n e - tA b n e) ≤ n ∨ tE b n e < tA b n e := fun _ => by omega
theorem isWordC {Z : Nat} {M : Mem} {b : Nat → Nat} {n e t : Nat} (hZ : 4000 < Z) (hB : BC b n M) (hT : TC b n e M) (he : e ≤ n) (ht : t < 10) : f_X2_isWord Z M t = some (bN (isW b n e t), M) := by
  have hn := hB.1
  obtain ⟨w1, w2⟩ := wL_ok t ht
  obtain ⟨a1, a2⟩ := tE_ok (b := b) he
  obtain ⟨t1, t2, t3, _⟩ := hT
  have kk : tK b n e < 100 := by
    unfold tK
    repeat' split
    all_goals decide
  unfold f_X2_isWord isW
  rw [bd_eq, t1]
  by_cases c : tK b n e = 1
  · rw [if_pos (by rw [c]; rfl), bd_eq, t3, bd_eq, t2, nI_sub a1, decide_eq_true c, Bool.true_and]
    have es : slen t = nI (wL t).length := rfl
    rw [es]
    by_cases c2 : tE b n e - tA b n e = (wL t).length
    · rw [if_pos (by rw [c2]), decide_eq_true c2, Bool.true_and, i0]
      refine lpS (σ := Unit) (fun m k _ => f_X2_isWord_L28 Z M t m (nI k)) (fun q => q = some (bN (eqW b (tA b n e) (wL t) (wL t).length), M)) (fun k _ => eqW b (tA b n e) (wL t) k = true) 0 (wL t).length (s := ()) (by omega) (by omega) rfl ?_ ?_
      · intro m k _ _ hk hI K
        have hb := hB.2.2 (tA b n e + k) (by omega)
        have hc := w2 k (by omega)
        rw [f_X2_isWord_L28, es, if_neg (by rw [nI_ile (by omega) (by omega)]; omega), bd_eq, t2, nI_add, rdI_n (by omega) (by decide), hb.2, rdS_n hk w1]
        by_cases d : b (tA b n e + k) = (wL t).getD k 0
        · rw [if_pos (by rw [bySg_eq hb.1 hc]; exact d), i1, nI_add]
          refine K () ?_
          show (eqW b (tA b n e) (wL t) k && decide (b (tA b n e + k) = (wL t).getD k 0)) = true
          rw [hI, decide_eq_true d]
          rfl
        · rw [if_neg (by rw [bySg_eq hb.1 hc]; exact d), eqW_no d _ hk]
          rfl
      · intro m _ hI
        rw [f_X2_isWord_L28, es, if_pos (by rw [nI_ile (by omega) (by omega)]; omega), hI]
        rfl
    · rw [if_neg (by rw [nI_eq (by omega) (by omega)]; exact c2), decide_eq_false c2, Bool.false_and]
      rfl
  · rw [if_neg (by rw [show (1 : Int32) = nI 1 from rfl, nI_eq (by omega) (by decide)]; exact c), decide_eq_false c, Bool.false_and]
    rfl
/-- the reference, right so far, at the token e; its row -/
def okR (b : Nat → Nat) (n e : Nat) (Q : Nat → Int32) (M : Mem) : Prop := BR b n M ∧ TR b n e M ∧ gI M 108 19 = nI 0 ∧ gI M 113 = Q ∧ e ≤ n
/-- .. or wrong -/
def erR (c p : Nat) (M : Mem) : Prop := gI M 108 19 = nI c ∧ c ≠ 0 ∧ c < 10 ∧ gI M 108 20 = nI p
def kQ : List Nat := [13, 14, 15, 17, 18, 19, 20]
/-- the number of states read is small -/
def sm0 (M : Mem) : Prop := ∃ N, N ≤ 6 ∧ gI M 113 0 = nI N
def fQ (M M' : Mem) : Prop := fr [108, 113, 115] M M' ∧ (∀ k, k ∉ kQ → gI M' 108 k = gI M 108 k) ∧ (sm0 M → sm0 M')
theorem fQ.rfl {M : Mem} : fQ M M := ⟨fr.rfl, fun _ _ => Eq.refl _, fun h => h⟩
theorem fQ.trans {M M1 M2 : Mem} (h : fQ M M1) (h2 : fQ M1 M2) : fQ M M2 := ⟨h.1.trans h2.1, fun k hk => (h2.2.1 k hk).trans (h.2.1 k hk), fun z => h2.2.2 (h.2.2 z)⟩
theorem ft.q {M M' : Mem} (h : ft M M') : fQ M M' := ⟨h.1.mono (by decide), fun k hk => h.2 k (fun z => hk (by
  have : ∀ k, k ∈ kT → k ∈ kQ := by decide
  exact this k z)), fun ⟨N, h1, h2⟩ => ⟨N, h1, by rw [h.1.I (by decide)]; exact h2⟩⟩
theorem fQ.s {M M1 : Mem} {k : Nat} {v : Int32} (h : fQ M M1) (hk : k ∈ kQ) : fQ M (sI M1 108 k v) := ⟨fr_sI h.1 (by decide), fun j hj => by rw [gI_sI, if_neg (fun z => hj (by rw [z.2]; exact hk))]; exact h.2.1 j hj, fun z => by
  obtain ⟨N, h1, h2⟩ := h.2.2 z
  exact ⟨N, h1, by rw [gI_sI, if_neg (fun z => absurd z.1 (by decide))]; exact h2⟩⟩
theorem fQ.w {M M1 : Mem} {k : Nat} {v : Int32} (h : fQ M M1) (h0 : k = 0 → ∃ N, N ≤ 6 ∧ v = nI N := by intro z; exact absurd z (by omega)) : fQ M (sI M1 113 k v) := ⟨fr_sI h.1 (by decide), fun j hj => by rw [gI_sI, if_neg (fun z => absurd z.1 (by decide))]; exact h.2.1 j hj, fun z => by
  obtain ⟨N, h1, h2⟩ := h.2.2 z
  by_cases c : k = 0
  · obtain ⟨N', g1, g2⟩ := h0 c
    exact ⟨N', g1, by rw [gI_sI, if_pos ⟨Eq.refl _, c.symm⟩]; exact g2⟩
  · exact ⟨N, h1, by rw [gI_sI, if_neg (fun z => c z.2.symm)]; exact h2⟩⟩
theorem tK_lt {b : Nat → Nat} {n e : Nat} : tK b n e < 6 := by
  unfold tK
  repeat' split
  all_goals decide
theorem kR_1 {k : Nat} : (kR k = 1) = (k = 1) := by
  unfold kR
  repeat' split
  all_goals exact propext (by omega)
theorem kR_2 {k : Nat} : (kR k = 2) = (k = 2) := by
  unfold kR
  repeat' split
  all_goals exact propext (by omega)
theorem kR_0 {k : Nat} : (kR k = 0) = (k = 0) := by
  unfold kR
  repeat' split
  all_goals exact propext (by omega)
theorem kR_3 {k : Nat} : (kR k = 3) = (k = 4) := by
  unfold kR
  repeat' split
  all_goals exact propext (by omega)
theorem kR_4 {k : Nat} : (kR k = 4) = (k = 3) := by
  unfold kR
  repeat' split
  all_goals exact propext (by omega)
theorem kR_lt {k : Nat} (h : k < 6) : kR k < 6 := by
  unfold kR
  repeat' split
  all_goals omega
theorem er_ne {c p : Nat} {M : Mem} (h : erR c p M) : ¬ gI M 108 19 = (0 : Int32) := by
  rw [h.1, show (0 : Int32) = nI 0 from rfl, nI_eq (by have := h.2.2.1; omega) (by decide)]
  exact h.2.1
theorem bN_1 {q : Bool} : bN q &&& 1 = bN q := bN_and q
