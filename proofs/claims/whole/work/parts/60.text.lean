/-! the report: texts -/
theorem lN_div {a b : Nat} (ha : a < 2 ^ 63) (hb : b < 2 ^ 63) : lN a / lN b = lN (a / b) := by
  apply Int64.toInt_inj.mp
  have h1 : a / b ≤ a := Nat.div_le_self a b
  rw [Int64.toInt_div, lN_toI ha, lN_toI hb, lN_toI (by omega), ← Int.ofNat_tdiv]
  generalize a / b = c at h1
  exact Int.bmod_eq_of_le (by omega) (by omega)
theorem lN_mod10 {a : Nat} (ha : a < 2 ^ 63) : lN a - lN a / (10 : Int64) * (10 : Int64) = lN (a % 10) := by
  rw [show (10 : Int64) = lN 10 from rfl, lN_div ha (by decide), lN_mul, lN_sub (by omega), show a - a / 10 * 10 = a % 10 by omega]
theorem lN_to32 {a : Nat} : (lN a).toInt32 = nI a := Int64.toInt32_ofNat'
theorem nzL10 {β : Type} {k : Option β} : nzL (10 : Int64) k = k := if_neg (by decide)
theorem nzL_n {β : Type} {a : Nat} {k : Option β} (h1 : 0 < a) (h2 : a < 2 ^ 63) : nzL (lN a) k = k := by
  unfold nzL
  rw [if_neg]
  rw [l0, lN_eqx h2 (by decide)]
  omega
theorem byt : ∀ c, c < 128 → vp_nar .byte ((nI c).toInt8.toInt32) = nI c := by decide +kernel
theorem wrB_n {β : Type} {M : Mem} {o n j : Nat} {v : Int32} {k : Mem → Option β} (h : j < n) (hn : n < 100000) : wrB M o n (nI j) v k = k (sI M o j (vp_nar .byte v)) := by
  have e := nI_clamp (n := j) (by omega)
  have : inB (nI j) n = true := by
    simp only [inB, Bool.and_eq_true, decide_eq_true_eq, e]
    exact ⟨nI_pos' (by omega), h⟩
  simp only [wrB, this, if_true, e]
/-- the texts, class and reference -/
def TX (M : Mem) (ds : List Nat) : Prop := gI M 105 1 = nI ds.length ∧ ∀ i, i < ds.length → gI M 106 i = nI (ds.getD i 0)
def TY (M : Mem) (ds : List Nat) : Prop := gI M 108 31 = nI ds.length ∧ ∀ i, i < ds.length → gI M 123 i = nI (ds.getD i 0)
theorem getD_app {ds : List Nat} {c i : Nat} (h : i < ds.length + 1) : (ds ++ [c]).getD i 0 = if i < ds.length then ds.getD i 0 else c := by
  by_cases d : i < ds.length
  · rw [if_pos d]
    simp [List.getD_eq_getElem?_getD, List.getElem?_append_left d]
  · rw [if_neg d, show i = ds.length by omega]
    simp [List.getD_eq_getElem?_getD]
theorem i114 : Int32.ofNat 114 = nI 114 := rfl
theorem addByte_ok {Z : Nat} {M : Mem} {ds : List Nat} (h : TX M ds) (hl : ds.length < 114) {c : Nat} (hc : c < 128) : OK (f_X6_addByte Z M (nI c)) (fun _ M' => fr [105, 106] M M' ∧ TX M' (ds ++ [c])) := by
  unfold f_X6_addByte
  simp (disch := omega) only [bd_eq, h.1, i114, if_neg (show ¬ 114 ≤ ds.length by omega), nI_ile, wrB_n, byt c hc, gI_sI', if_neg (show ¬ (105 : Nat) = 106 by decide), i1, nI_add]
  refine OK.ret ⟨fr_sI (fr_sI fr.rfl (by decide)) (by decide), ?_, fun i hi => ?_⟩
  · rw [gI_sI, if_pos ⟨rfl, rfl⟩, List.length_append]
    rfl
  · rw [List.length_append] at hi
    have hi2 : i < ds.length + 1 := hi
    rw [gI_sI, if_neg (by omega), gI_sI, getD_app hi2]
    by_cases d : i < ds.length
    · rw [if_neg (by omega), if_pos d]
      exact h.2 i d
    · rw [if_pos ⟨rfl, by omega⟩, if_neg d]
theorem says_ok {Z : Nat} {M : Mem} {ds : List Nat} (h : TY M ds) (hl : ds.length < 200) {c : Nat} : OK (f_X12_says Z M (nI c)) (fun _ M' => (∀ o, o ≠ 108 → o ≠ 123 → gI M' o = gI M o) ∧ (∀ o, gL M' o = gL M o ∧ gR M' o = gR M o) ∧ (∀ k, k ≠ 31 → gI M' 108 k = gI M 108 k) ∧ TY M' (ds ++ [c])) := by
  unfold f_X12_says
  simp (disch := omega) only [bd_eq, h.1, wrI_n, gI_sI', if_neg (show ¬ (108 : Nat) = 123 by decide), i1, nI_add]
  refine OK.ret ⟨fun o h1 h2 => ?_, fun o => ⟨rfl, rfl⟩, fun k hk => ?_, ?_, fun i hi => ?_⟩
  · rw [gI_sI', if_neg h1, gI_sI', if_neg h2]
  · rw [gI_sI, if_neg (by omega), gI_sI, if_neg (by omega)]
  · rw [gI_sI, if_pos ⟨rfl, rfl⟩, List.length_append]
    rfl
  · rw [List.length_append] at hi
    have hi2 : i < ds.length + 1 := hi
    rw [gI_sI, if_neg (by omega), gI_sI, getD_app hi2]
    by_cases d : i < ds.length
    · rw [if_neg (by omega), if_pos d]
      exact h.2 i d
    · rw [if_pos ⟨rfl, by omega⟩, if_neg d]
/-- what says leaves as it is -/
def fy (M M' : Mem) : Prop := (∀ o, o ≠ 108 → o ≠ 123 → gI M' o = gI M o) ∧ (∀ o, gL M' o = gL M o ∧ gR M' o = gR M o) ∧ (∀ k, k ≠ 31 → gI M' 108 k = gI M 108 k)
theorem fy.rfl {M : Mem} : fy M M := ⟨fun _ _ _ => Eq.refl _, fun _ => ⟨Eq.refl _, Eq.refl _⟩, fun _ _ => Eq.refl _⟩
theorem fy.trans {M M1 M2 : Mem} (h : fy M M1) (h2 : fy M1 M2) : fy M M2 := ⟨fun o a b => (h2.1 o a b).trans (h.1 o a b), fun o => ⟨(h2.2.1 o).1.trans (h.2.1 o).1, (h2.2.1 o).2.trans (h.2.1 o).2⟩, fun k hk => (h2.2.2 k hk).trans (h.2.2 k hk)⟩
theorem says_ok' {Z : Nat} {M : Mem} {ds : List Nat} (h : TY M ds) (hl : ds.length < 200) {c : Nat} : OK (f_X12_says Z M (nI c)) (fun _ M' => fy M M' ∧ TY M' (ds ++ [c])) := by
  obtain ⟨a, M', e, h1, h2, h3, h4⟩ := says_ok (Z := Z) h hl (c := c)
  exact ⟨a, M', e, ⟨h1, h2, h3⟩, h4⟩
/-- d + 1 digits of a number -/
def dgs : Nat → Nat → List Nat
  | 0, n => [48 + n % 10]
  | d + 1, n => dgs d (n / 10) ++ [48 + n % 10]
theorem dgs_len {d : Nat} : ∀ n, (dgs d n).length = d + 1 := by
  induction d with
  | zero => intro n; rfl
  | succ d ih => intro n; show (dgs d (n / 10) ++ [48 + n % 10]).length = _; rw [List.length_append, ih]; rfl
theorem dig_ex (n : Nat) : ∀ k, n < 10 ^ (k + 1) → ∃ d, d ≤ k ∧ n < 10 ^ (d + 1) ∧ (d = 0 ∨ 10 ^ d ≤ n) := by
  intro k
  induction k with
  | zero => intro h; exact ⟨0, Nat.le_refl _, h, Or.inl rfl⟩
  | succ k ih =>
    intro h
    by_cases c : n < 10 ^ (k + 1)
    · obtain ⟨d, h1, h2, h3⟩ := ih c
      exact ⟨d, by omega, h2, h3⟩
    · exact ⟨k + 1, Nat.le_refl _, h, Or.inr (by omega)⟩
/-- reference: a number's digits -/
theorem saysNumber_ok {Z : Nat} : ∀ d f M ds n, d < f → n < 2 ^ 63 → n < 10 ^ (d + 1) → (d = 0 ∨ 10 ^ d ≤ n) → TY M ds → ds.length + d < 199 → OK (f_X12_saysNumber_R Z f M (lN n)) (fun _ M' => fy M M' ∧ TY M' (ds ++ dgs d n)) := by
  intro d
  induction d with
  | zero =>
    intro f M ds n hf hn h1 _ h hl
    obtain ⟨f, rfl⟩ : ∃ g, f = g + 1 := ⟨f - 1, by omega⟩
    have h9 : n ≤ 9 := by
      have : (10 : Nat) ^ (0 + 1) = 10 := by decide
      omega
    rw [f_X12_saysNumber_R, show (9 : Int64) = lN 9 from rfl, if_pos (by rw [lN_ile hn (by decide)]; exact h9), nzL10, lN_mod10 hn, lN_to32, show (48 : Int32) = nI 48 from rfl, nI_add]
    obtain ⟨_, M1, e1, g1, g2⟩ := says_ok' (Z := Z) h (by omega) (c := 48 + n % 10)
    rw [e1, cl_some]
    exact OK.ret ⟨g1, g2⟩
  | succ d ih =>
    intro f M ds n hf hn h1 h2 h hl
    obtain ⟨f, rfl⟩ : ∃ g, f = g + 1 := ⟨f - 1, by omega⟩
    have hp : 10 ^ (d + 1) ≤ n := by
      rcases h2 with e | e
      · omega
      · exact e
    have hp0 : 0 < 10 ^ d := Nat.pow_pos (by decide)
    have e10 : 10 ^ (d + 1) = 10 ^ d * 10 := Nat.pow_succ 10 d
    have e11 : 10 ^ (d + 1 + 1) = 10 ^ (d + 1) * 10 := Nat.pow_succ 10 (d + 1)
    have h9 : ¬ n ≤ 9 := by omega
    rw [f_X12_saysNumber_R, show (9 : Int64) = lN 9 from rfl, if_neg (by rw [lN_ile hn (by decide)]; exact h9), nzL10, show lN n / (10 : Int64) = lN (n / 10) from lN_div hn (by decide)]
    obtain ⟨_, M1, e1, g1, g2⟩ := ih f M ds (n / 10) (by omega) (by omega) (by omega) (Or.inr (by omega)) h (by omega)
    rw [e1, cl_some, nzL10, show lN n - lN (n / 10) * (10 : Int64) = lN (n % 10) by rw [← lN_mod10 hn, show lN n / (10 : Int64) = lN (n / 10) from lN_div hn (by decide)], lN_to32, show (48 : Int32) = nI 48 from rfl, nI_add]
    obtain ⟨_, M2, e2, k1, k2⟩ := says_ok' (Z := Z) g2 (by rw [List.length_append, dgs_len]; omega) (c := 48 + n % 10)
    rw [e2, cl_some]
    refine OK.ret ⟨g1.trans k1, ?_⟩
    rw [List.append_assoc] at k2
    exact k2
/-- class: a number's digits -/
def pre (d j n : Nat) : List Nat := if j = d then [] else dgs (d - j - 1) (n / 10 ^ (j + 1))
theorem pre_step {d j n : Nat} (hj : j ≤ d) : pre d j n ++ [48 + n / 10 ^ j % 10] = dgs (d - j) (n / 10 ^ j) := by
  unfold pre
  by_cases c : j = d
  · rw [if_pos c, c, Nat.sub_self]
    rfl
  · rw [if_neg c, show d - j = d - j - 1 + 1 by omega]
    show _ = dgs (d - j - 1) (n / 10 ^ j / 10) ++ [48 + n / 10 ^ j % 10]
    rw [Nat.div_div_eq_div_mul, ← Nat.pow_succ]
    rfl
theorem addNumber_ok {Z : Nat} {M : Mem} {ds : List Nat} {d n : Nat} (hZ : 30 < Z) (h : TX M ds) (hl : ds.length + d < 114) (hd : d ≤ 15) (hn : n ≤ 10 ^ 15) (h1 : n < 10 ^ (d + 1)) (h2 : d = 0 ∨ 10 ^ d ≤ n) : OK (f_X6_addNumber Z M (lN n)) (fun _ M' => fr [105, 106] M M' ∧ TX M' (ds ++ dgs d n)) := by
  unfold f_X6_addNumber
  have pw : ∀ i, i ≤ 15 → 10 ^ i ≤ 10 ^ 15 := fun i hi => Nat.pow_le_pow_right (by decide) hi
  have pp : ∀ i, 0 < 10 ^ i := fun i => Nat.pow_pos (by decide)
  obtain ⟨Q, hQ⟩ : ∃ Q : Unit → Mem → Prop, Q = (fun _ M' => fr [105, 106] M M' ∧ TX M' (ds ++ dgs d n)) := ⟨_, rfl⟩
  rw [← hQ]
  generalize hkk : (fun (y3 : Int64) => f_X6_addNumber_L37 Z (lN n) Z y3 M) = kk
  have hdiv : lN n / (10 : Int64) = lN (n / 10) := lN_div (by omega) (by decide)
  have K0 : OK (kk (lN (10 ^ d))) Q := by
    rw [← hkk]
    dsimp only
    rw [show 10 ^ d = (if 0 ≤ d then 10 ^ (d - 0) else 0) by rw [if_pos (Nat.zero_le _), Nat.sub_zero]]
    refine lpS (fun m i M1 => f_X6_addNumber_L37 Z (lN n) m (lN (if i ≤ d then 10 ^ (d - i) else 0)) M1) (fun z => OK z Q) (fun i M1 => fr [105, 106] M M1 ∧ TX M1 (if i ≤ d then ds ++ pre d (d - i) n else ds ++ dgs d n)) 0 (d + 1) (by omega) (by omega) ⟨fr.rfl, ?_⟩ ?_ ?_
    · rw [if_pos (Nat.zero_le _), Nat.sub_zero]
      unfold pre
      rw [if_pos rfl, List.append_nil]
      exact h
    · intro m i M1 _ hi ⟨f1, t1⟩ K
      rw [if_pos (by omega)] at t1
      have hpi := pw (d - i) (by omega)
      have hp0 := pp (d - i)
      have q1 : n / 10 ^ (d - i) ≤ n := Nat.div_le_self _ _
      have e48 : (48 : Int32) + (lN (n / 10 ^ (d - i) % 10)).toInt32 = nI (48 + n / 10 ^ (d - i) % 10) := by rw [lN_to32, show (48 : Int32) = nI 48 from rfl, nI_add]
      have hlen : (ds ++ pre d (d - i) n).length < 114 := by
        unfold pre
        split
        · simp; omega
        · rw [List.length_append, dgs_len]; omega
      obtain ⟨_, M2, e2, f2, t2⟩ := addByte_ok (Z := Z) t1 hlen (c := 48 + n / 10 ^ (d - i) % 10) (by omega)
      rw [f_X6_addNumber_L37, if_pos (show i ≤ d by omega), l0, if_neg (by rw [lN_ile (by omega) (by decide)]; omega), nzL_n hp0 (by omega), nzL10, lN_div (by omega) (by omega), lN_mod10 (by omega), e48, e2, cl_some, nzL10, show (10 : Int64) = lN 10 from rfl, lN_div (by omega) (by decide)]
      have e9 : 10 ^ (d - i) / 10 = if i + 1 ≤ d then 10 ^ (d - (i + 1)) else 0 := by
        by_cases c : i + 1 ≤ d
        · rw [if_pos c, show d - i = d - (i + 1) + 1 by omega, Nat.pow_succ, Nat.mul_div_cancel _ (by decide)]
        · rw [if_neg c, show d - i = 0 by omega]
      rw [e9]
      refine K M2 ⟨f1.trans f2, ?_⟩
      rw [List.append_assoc, pre_step (by omega)] at t2
      by_cases c : i + 1 ≤ d
      · rw [if_pos c]
        unfold pre
        rw [if_neg (by omega), show d - (d - (i + 1)) - 1 = d - (d - i) by omega, show d - (i + 1) + 1 = d - i by omega]
        exact t2
      · rw [if_neg c]
        rw [show d - i = 0 by omega, Nat.sub_zero, Nat.pow_zero, Nat.div_one] at t2
        exact t2
    · intro m M1 ⟨f1, t1⟩
      rw [if_neg (by omega)] at t1
      rw [f_X6_addNumber_L37, if_neg (show ¬ d + 1 ≤ d by omega), if_pos (by decide), hQ]
      exact OK.ret ⟨f1, t1⟩
  rw [show (1 : Int64) = lN (10 ^ 0) from rfl, i1, show nI 1 = nI (0 + 1) from rfl]
  refine lpS (σ := Unit) (fun m i _ => f_X6_addNumber_L5 Z M (lN n) kk m (lN (10 ^ i)) (nI (i + 1))) (fun z => OK z Q) (fun _ _ => True) 0 d (s := ()) (by omega) (by omega) trivial ?_ ?_
  · intro m i _ _ hi _ K
    have K1 := K () trivial
    have hpi := pw i (by omega)
    have hle : 10 ^ i ≤ n / 10 := by
      have h3 : 10 ^ (i + 1) ≤ 10 ^ d := Nat.pow_le_pow_right (by decide) (by omega)
      have e10 : 10 ^ (i + 1) = 10 ^ i * 10 := Nat.pow_succ 10 i
      omega
    rw [Nat.pow_succ, ← lN_mul] at K1
    rw [f_X6_addNumber_L5, show (16 : Int32) = nI 16 from rfl, if_neg (by rw [nI_ile (by decide) (by omega)]; omega), nzL10, hdiv, if_neg (by rw [lN_ilt (by omega) (by omega)]; omega), i1, nI_add]
    exact K1
  · intro m _ _
    have hpi := pw d hd
    rw [f_X6_addNumber_L5, show (16 : Int32) = nI 16 from rfl]
    by_cases c : 16 ≤ d + 1
    · rw [if_pos (by rw [nI_ile (by decide) (by omega)]; exact c)]
      exact K0
    · rw [if_neg (by rw [nI_ile (by decide) (by omega)]; exact c), nzL10, hdiv, if_pos (by
        rw [lN_ilt (by omega) (by omega)]
        have e10 : 10 ^ (d + 1) = 10 ^ d * 10 := Nat.pow_succ 10 d
        omega)]
      exact K0
