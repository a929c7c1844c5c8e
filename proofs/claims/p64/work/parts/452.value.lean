/-! values of steps -/
def VO (P : Nat → Int32) (n : Nat) (V : Nat → Int64) (r : Nat) : Int64 := (P (14 + r)).toInt64 * lN (100 ^ (n - 1)) + smL (cN P) (fun y => lN (cP P r y) * V y)
/-- the first permitted one of the greatest value -/
def pk (p : Nat → Bool) (v : Nat → Int64) : Nat → Option Nat
  | 0 => none
  | a + 1 => match pk p v a with
    | none => if p a then some a else none
    | some b => if p a ∧ v b < v a then some a else some b
def pkI (o : Option Nat) : Int32 := match o with
  | none => -1
  | some a => nI a
def pkV (v : Nat → Int64) (o : Option Nat) : Int64 := match o with
  | none => -9223372036854775808
  | some a => v a
theorem pick_lt {p : Nat → Bool} {v : Nat → Int64} : ∀ n b, pk p v n = some b → b < n := by
  intro n
  induction n with
  | zero => intro b h; exact nomatch h
  | succ n ih =>
    intro b h
    have e : pk p v (n + 1) = (match pk p v n with
      | none => if p n then some n else none
      | some b => if p n ∧ v b < v n then some n else some b) := rfl
    rw [e] at h
    cases c : pk p v n with
    | none =>
      rw [c] at h
      by_cases d : p n = true
      · simp only [d, if_true, Option.some.injEq] at h
        omega
      · simp only [d] at h
        exact nomatch h
    | some b' =>
      rw [c] at h
      have hb := ih b' c
      by_cases d : p n = true ∧ v b' < v n
      · simp only [d, and_self, if_true, Option.some.injEq] at h
        omega
      · simp only [if_neg d, Option.some.injEq] at h
        omega
theorem pick_some {p : Nat → Bool} {v : Nat → Int64} : ∀ n, (∃ a, a < n ∧ p a = true) → ∃ b, pk p v n = some b := by
  intro n
  induction n with
  | zero => intro ⟨a, h, _⟩; omega
  | succ n ih =>
    intro ⟨a, ha, hp⟩
    have e : pk p v (n + 1) = (match pk p v n with
      | none => if p n then some n else none
      | some b => if p n ∧ v b < v n then some n else some b) := rfl
    rw [e]
    cases c : pk p v n with
    | none =>
      by_cases d : a = n
      · subst d
        exact ⟨a, by simp only [hp, if_true]⟩
      · obtain ⟨b, hb⟩ := ih ⟨a, by omega, hp⟩
        rw [c] at hb
        exact nomatch hb
    | some b' =>
      by_cases d : p n = true ∧ v b' < v n
      · exact ⟨n, by simp only [if_pos d]⟩
      · exact ⟨b', by simp only [if_neg d]⟩
def VL (P S : Nat → Int32) : Nat → Nat → Int64
  | 0, _ => 0
  | n + 1, x => VO P (n + 1) (VL P S n) (x * 3 + (pk (pmt S x) (fun a => VO P (n + 1) (VL P S n) (x * 3 + a)) (cM P x)).getD 0)
theorem VL_0 {P S : Nat → Int32} {x : Nat} : VL P S 0 x = 0 := by rw [VL]
theorem VL_s {P S : Nat → Int32} {n x : Nat} : VL P S (n + 1) x = VO P (n + 1) (VL P S n) (x * 3 + (pk (pmt S x) (fun a => VO P (n + 1) (VL P S n) (x * 3 + a)) (cM P x)).getD 0) := by rw [VL]
theorem VS.one {P S : Nat → Int32} (h : VS P S) {x : Nat} (hx : x < cN P) : ∃ a, a < cM P x ∧ pmt S x a = true := by
  obtain ⟨a, ha, e⟩ := h.2.2.2.2.2.2.2.1 x hx
  exact ⟨a, ha, decide_eq_true e⟩
/-- class -/
theorem valueOver_eq {Z : Nat} {M : Mem} {P : Nat → Int32} (hV : VP P) (hc : ChC M (cN P) (cM P) (cP P)) (hg : ∀ r, r < 18 → gI M 5 r = P (14 + r)) (hZ : 20 < Z) {A : Nat → Nat → Int64} (hA : MT 103 M A) {V : Nat → Int64} {r n : Nat} (hr : r < 18) (hn : n < 5) (hAV : ∀ y, y < cN P → A n y = V y) : f_X9_valueOver Z M (nI r) (nI (n + 1)) = some (VO P (n + 1) V r, M) := by
  have hN := hV.2.1.2.1
  unfold f_X9_valueOver
  rw [rdI_n hr (by decide), hg r hr, i1]
  generalize hkk : (fun (y4 : Int64) => f_X9_valueOver_L35 Z (nI r) (nI (n + 1)) Z y4 (0 : Int32) M) = kk
  have K0 : kk ((P (14 + r)).toInt64 * lN (100 ^ n)) = some (VO P (n + 1) V r, M) := by
    rw [← hkk]
    dsimp only
    unfold VO
    rw [Nat.add_sub_cancel, i0]
    generalize (P (14 + r)).toInt64 * lN (100 ^ n) = B
    have key : f_X9_valueOver_L35 Z (nI r) (nI (n + 1)) Z (B + smL 0 (fun y => lN (cP P r y) * V y)) (nI 0) M = some (B + smL (cN P) (fun y => lN (cP P r y) * V y), M) := by
      refine lpS (σ := Unit) (fun m y _ => f_X9_valueOver_L35 Z (nI r) (nI (n + 1)) m (B + smL y (fun y => lN (cP P r y) * V y)) (nI y) M) (fun q => q = some (B + smL (cN P) (fun y => lN (cP P r y) * V y), M)) (fun _ _ => True) 0 (cN P) (s := ()) (by omega) (by omega) trivial ?_ ?_
      · intro m y _ _ hy _ K
        have K1 := K () trivial
        have hp := hV.2.2.2.2.2.2.1 r y
        have e : f_X9_of Z M (nI y) (nI (n + 1) - nI 1) = some (V y, M) := by
          unfold f_X9_of
          rw [nI_sub (by omega), Nat.add_sub_cancel, i6, nI_mul, nI_add, rdL_n (by omega) (by decide), hA n (by omega) y (by omega), hAV y hy]
        rw [f_X9_valueOver_L35, bd_eq, hc.1]
        simp (disch := omega) only [if_neg (show ¬ cN P ≤ y by omega), nI_ile, percentTo_eq hc hr (show y < 6 by omega), cl_some, i1, e, nI_l, nI_add]
        rw [Int64.add_assoc]
        exact K1
      · intro m _ _
        rw [f_X9_valueOver_L35, bd_eq, hc.1]
        simp only [ge_self, if_true]
    rw [show B + smL 0 (fun y => lN (cP P r y) * V y) = B from Int64.add_zero B] at key
    exact key
  rw [show (P (14 + r)).toInt64 = (P (14 + r)).toInt64 * lN (100 ^ (1 - 1)) from (Int64.mul_one _).symm]
  refine lpS (σ := Unit) (fun m i _ => f_X9_valueOver_L14 Z M (nI r) (nI (n + 1)) kk m ((P (14 + r)).toInt64 * lN (100 ^ (i - 1))) (nI i)) (fun q => q = some (VO P (n + 1) V r, M)) (fun _ _ => True) 1 (n + 1) (s := ()) (by omega) (by omega) trivial ?_ ?_
  · intro m i _ h1 hi _ K
    have K1 := K () trivial
    obtain ⟨k, rfl⟩ : ∃ k, i = k + 1 := ⟨i - 1, by omega⟩
    rw [Nat.add_sub_cancel, Nat.pow_succ, ← lN_mul, ← Int64.mul_assoc] at K1
    rw [f_X9_valueOver_L14]
    simp (disch := omega) only [if_neg (show ¬ n + 1 ≤ k + 1 by omega), nI_ile, i1, nI_add, Nat.add_sub_cancel]
    exact K1
  · intro m _ _
    rw [f_X9_valueOver_L14]
    simp only [ge_self, if_true, Nat.add_sub_cancel]
    exact K0
theorem bN1 {b : Bool} : (bN b = 0) = (¬ b = true) := by
  cases b <;> simp [bN]
theorem neg1_ne {b : Nat} (hb : b < 2 ^ 31) : ¬ nI b = (-1 : Int32) := nI_ne_neg hb
theorem firstAction_eq {Z : Nat} {M : Mem} {P S : Nat → Int32} (hV : VP P) (hS : VS P S) (hc : ChC M (cN P) (cM P) (cP P)) (hg : ∀ r, r < 18 → gI M 5 r = P (14 + r)) (hr : RS P M 10 S) (hZ : 20 < Z) {A : Nat → Nat → Int64} (hA : MT 103 M A) {V : Nat → Int64} {x n : Nat} (hx : x < cN P) (hn : n < 5) (hAV : ∀ y, y < cN P → A n y = V y) : f_X9_firstAction Z M (nI x) (nI (n + 1)) = some (nI ((pk (pmt S x) (fun a => VO P (n + 1) V (x * 3 + a)) (cM P x)).getD 0), M) := by
  have hN := hV.2.1.2.1
  have hm := hV.sz.2.1 x
  unfold f_X9_firstAction
  generalize hv : (fun a => VO P (n + 1) V (x * 3 + a)) = v
  have hv' : ∀ a, VO P (n + 1) V (x * 3 + a) = v a := fun a => by rw [← hv]
  obtain ⟨b, hb⟩ := pick_some (p := pmt S x) (v := v) (cM P x) (hS.one hx)
  have hbl := pick_lt _ _ hb
  rw [hb, i0]
  generalize hkk : (fun (y19 : Int32) (M20 : Mem) => bd (if y19 < nI 0 then nI 0 else y19) (fun v21 => some (v21, M20))) = kk
  have K0 : kk (pkI (pk (pmt S x) v (cM P x))) M = some (nI b, M) := by
    rw [← hkk, hb]
    show bd (if nI b < nI 0 then nI 0 else nI b) (fun v21 => some (v21, M)) = _
    rw [← i0, if_neg (nI_nlt0 (by omega)), bd_eq]
  rw [show (-1 : Int32) = pkI (pk (pmt S x) v 0) from rfl, show (-9223372036854775808 : Int64) = pkV v (pk (pmt S x) v 0) from rfl]
  refine lpS (σ := Unit) (fun m i _ => f_X9_firstAction_L10 Z (nI x) (nI (n + 1)) kk m (pkI (pk (pmt S x) v i)) (pkV v (pk (pmt S x) v i)) (nI i) M) (fun q => q = some (nI b, M)) (fun _ _ => True) 0 (cM P x) (s := ()) (by omega) (by omega) trivial ?_ ?_
  · intro m a _ _ ha _ K
    have K1 := K () trivial
    have e : pk (pmt S x) v (a + 1) = (match pk (pmt S x) v a with
      | none => if pmt S x a then some a else none
      | some b => if pmt S x a ∧ v b < v a then some a else some b) := rfl
    rw [e] at K1
    rw [f_X9_firstAction_L10]
    simp (disch := omega) only [rdI_n, hc.2.1 x (by omega), if_neg (show ¬ cM P x ≤ a by omega), nI_ile, rowOf_eq, cl_some, valueOver_eq hV hc hg hZ hA (show x * 3 + a < 18 by omega) hn hAV, hv', permits_eq hr hV.sz.2.1 hN hx ha, jn_eq, i1, nI_add]
    cases c : pk (pmt S x) v a with
    | none =>
      rw [c] at K1
      by_cases d : pmt S x a = true
      · rw [if_neg (by rw [bN1]; simp [d])]
        simp only [d, if_true] at K1
        rw [if_pos (show pkI none = -nI 1 by decide)]
        exact K1
      · rw [if_pos (by rw [bN1]; exact d)]
        simp only [if_neg d] at K1
        exact K1
    | some b' =>
      have hb' := pick_lt _ _ c
      rw [c] at K1
      by_cases d : pmt S x a = true
      · rw [if_neg (by rw [bN1]; simp [d]), if_neg (show ¬ pkI (some b') = -nI 1 from neg1_ne (by omega))]
        by_cases g : v a ≤ v b'
        · rw [if_pos (show v a ≤ pkV v (some b') from g)]
          simp only [if_neg (show ¬ (pmt S x a = true ∧ v b' < v a) from fun z => absurd z.2 (Int64.not_lt.mpr g))] at K1
          exact K1
        · rw [if_neg (show ¬ v a ≤ pkV v (some b') from g)]
          simp only [if_pos (show pmt S x a = true ∧ v b' < v a from ⟨d, Int64.not_le.mp g⟩)] at K1
          exact K1
      · rw [if_pos (by rw [bN1]; exact d)]
        simp only [if_neg (show ¬ (pmt S x a = true ∧ v b' < v a) from fun z => d z.1)] at K1
        exact K1
  · intro m _ _
    rw [f_X9_firstAction_L10]
    simp (disch := omega) only [rdI_n, hc.2.1 x (by omega), ge_self, if_true]
    exact K0
theorem valueFill_ok {Z : Nat} {M : Mem} {P S : Nat → Int32} (hV : VP P) (hS : VS P S) (hc : ChC M (cN P) (cM P) (cP P)) (hg : ∀ r, r < 18 → gI M 5 r = P (14 + r)) (hr : RS P M 10 S) (hZ : 60 < Z) : OK (f_X9_fill Z M) (fun _ M' => fr [103] M M' ∧ MT 103 M' (fun n x => if x < cN P then VL P S n x else 0)) := by
  have hN := hV.2.1
  unfold f_X9_fill
  obtain ⟨_, M1, e1, f1, v1⟩ := fill_d_ok (Z := Z) (M := M) (a := 103) (na := 36) (v := 0) (by decide) (by omega)
  rw [e1, cl_some, i1]
  obtain ⟨Q, hQ⟩ : ∃ Q : Unit → Mem → Prop, Q = (fun _ M' => fr [103] M M' ∧ MT 103 M' (fun n x => if x < cN P then VL P S n x else 0)) := ⟨_, rfl⟩
  rw [← hQ]
  refine lpS (fun m n M2 => f_X9_fill_L10 Z m (nI n) M2) (fun r => OK r Q) (fun n M2 => fr [103] M M2 ∧ MT 103 M2 (fun k x => if k < n ∧ x < cN P then VL P S k x else 0)) 1 6 (by omega) (by omega) ⟨f1, fun k hk x hx => ?_⟩ ?_ ?_
  · rw [v1 _ (by omega)]
    dsimp only
    by_cases c : k < 1 ∧ x < cN P
    · rw [if_pos c, show k = 0 by omega, VL_0]
    · rw [if_neg c]
  · intro m n' M2 h1 hn ⟨f2, t2⟩ K
    obtain ⟨n, rfl⟩ : ∃ n, n' = n + 1 := ⟨n' - 1, by omega⟩
    rw [f_X9_fill_L10]
    simp (disch := omega) only [if_neg (show ¬ 5 < n + 1 by omega), nI_ilt, i0, i1, i5, nI_add]
    generalize hkk : (fun (M18 : Mem) => f_X9_fill_L10 Z m (nI (n + 1 + 1)) M18) = kk
    have K1 : ∀ M2, (fr [103] M M2 ∧ MT 103 M2 (fun k x => if k < n + 1 + 1 ∧ x < cN P then VL P S k x else 0)) → OK (kk M2) Q := by rw [← hkk]; exact K
    refine lpS (fun m x M3 => f_X9_fill_L17 Z (nI (n + 1)) kk m (nI x) M3) (fun r => OK r Q) (fun x M3 => fr [103] M M3 ∧ MT 103 M3 (fun k y => if (k < n + 1 ∧ y < cN P) ∨ (k = n + 1 ∧ y < x) then VL P S k y else 0)) 0 (cN P) (by omega) (by omega) ⟨f2, t2.congr rfl (fun a _ b _ => ?_)⟩ ?_ ?_
    · by_cases c : a < n + 1 ∧ b < cN P
      · rw [if_pos c, if_pos (Or.inl c)]
      · rw [if_neg c, if_neg (by omega)]
    · intro m2 x M3 _ hx ⟨f3, t3⟩ K3
      have c3 := hc.fr f3 (by decide) (by decide) (by decide)
      have g3 : ∀ r, r < 18 → gI M3 5 r = P (14 + r) := fun r hr => by rw [f3.I (by decide)]; exact hg r hr
      have r3 : RS P M3 10 S := hr.kp (kp.of f3 (by decide)) now_ok
      have hAV : ∀ y, y < cN P → (fun k y => if (k < n + 1 ∧ y < cN P) ∨ (k = n + 1 ∧ y < x) then VL P S k y else 0) n y = VL P S n y := fun y hy => if_pos (Or.inl ⟨by omega, hy⟩)
      obtain ⟨b, hb⟩ := pick_some (p := pmt S x) (v := fun a => VO P (n + 1) (VL P S n) (x * 3 + a)) (cM P x) (hS.one hx)
      have hbl := pick_lt _ _ hb
      have hm := hV.sz.2.1 x
      have e9 : VL P S (n + 1) x = VO P (n + 1) (VL P S n) (x * 3 + b) := by
        rw [VL_s, hb, Option.getD_some]
      rw [f_X9_fill_L17, bd_eq, c3.1]
      have ef := firstAction_eq (Z := Z) (V := VL P S n) hV hS c3 g3 r3 (by omega) t3 hx (by omega) hAV
      have ev := valueOver_eq (Z := Z) (V := VL P S n) (r := x * 3 + b) hV c3 g3 (by omega) t3 (by omega) (by omega) hAV
      rw [hb, Option.getD_some] at ef
      rw [← e9] at ev
      rw [if_neg (by rw [nI_ile (by omega) (by omega)]; omega), ef, cl_some, rowOf_eq, cl_some, ev, cl_some, i6, i1, nI_mul, nI_add, nI_add, wrL_n (by omega) (by decide)]
      refine K3 _ ⟨fr_sL f3 List.mem_cons_self, (t3.set (x := n + 1) (y := x) (by omega)).congr rfl (fun a _ y _ => ?_)⟩
      dsimp only [mst]
      by_cases c : a = n + 1 ∧ y = x
      · rw [if_pos c, if_pos (Or.inr ⟨c.1, by omega⟩), c.1, c.2]
      · rw [if_neg c]
        by_cases d : (a < n + 1 ∧ y < cN P) ∨ (a = n + 1 ∧ y < x)
        · rw [if_pos d, if_pos (by omega)]
        · rw [if_neg d, if_neg (by omega)]
    · intro m2 M3 ⟨f3, t3⟩
      have c3 := hc.fr f3 (by decide) (by decide) (by decide)
      rw [f_X9_fill_L17, bd_eq, c3.1]
      simp only [ge_self, if_true]
      refine K1 M3 ⟨f3, t3.congr rfl (fun a _ y _ => ?_)⟩
      by_cases c : a < n + 1 + 1 ∧ y < cN P
      · rw [if_pos c, if_pos (by omega)]
      · rw [if_neg c, if_neg (by omega)]
  · intro m M2 ⟨f2, t2⟩
    rw [f_X9_fill_L10]
    simp (disch := omega) only [if_pos (show 5 < 6 by omega), nI_ilt, i5]
    rw [hQ]
    refine OK.ret ⟨f2, t2.congr rfl (fun a _ y _ => ?_)⟩
    by_cases c : y < cN P
    · rw [if_pos c, if_pos ⟨by omega, c⟩]
    · rw [if_neg c, if_neg (by omega)]

