/-! flows: class beside reference -/
def sm : Nat → (Nat → Nat) → Nat
  | 0, _ => 0
  | n + 1, f => sm n f + f n
theorem sm_congr {n : Nat} {f g : Nat → Nat} (h : ∀ i, i < n → f i = g i) : sm n f = sm n g := by
  induction n with
  | zero => rfl
  | succ n ih =>
    show sm n f + f n = sm n g + g n
    rw [ih (fun i hi => h i (by omega)), h n (by omega)]
/-- a table of longs, 6 by 6 -/
def MT (o : Nat) (M : Mem) (A : Nat → Nat → Int64) : Prop := ∀ x, x < 6 → ∀ y, y < 6 → gL M o (x * 6 + y) = A x y
def mst (A : Nat → Nat → Int64) (x y : Nat) (v : Int64) : Nat → Nat → Int64 := fun a b => if a = x ∧ b = y then v else A a b
theorem MT.set {o x y : Nat} {M : Mem} {A : Nat → Nat → Int64} {v : Int64} (h : MT o M A) (hy : y < 6) : MT o (sL M o (x * 6 + y) v) (mst A x y v) := by
  intro a ha b hb
  rw [gL_sL]
  unfold mst
  by_cases c : a = x ∧ b = y
  · rw [if_pos ⟨rfl, by rw [c.1, c.2]⟩, if_pos c]
  · rw [if_neg (fun z => c (by omega)), if_neg c]
    exact h a ha b hb
theorem MT.congr {o : Nat} {M M' : Mem} {A B : Nat → Nat → Int64} (h : MT o M A) (hM : gL M' o = gL M o) (hB : ∀ x, x < 6 → ∀ y, y < 6 → B x y = A x y) : MT o M' B := fun x hx y hy => by rw [hM, hB x hx y hy]; exact h x hx y hy
theorem mc6 (a : Nat) : 6 * a = a * 6 := Nat.mul_comm 6 a
theorem mc3 (a : Nat) : 3 * a = a * 3 := Nat.mul_comm 3 a
/-- the chain, in the class and in the reference: states, actions, percents -/
def ChC (M : Mem) (N : Nat) (m : Nat → Nat) (pc : Nat → Nat → Nat) : Prop := gI M 3 0 = nI N ∧ (∀ x, x < 6 → gI M 4 x = nI (m x)) ∧ ∀ r, r < 18 → ∀ y, y < 6 → gI M 7 (r * 6 + y) = nI (pc r y)
def ChR (M : Mem) (N : Nat) (m : Nat → Nat) (pc : Nat → Nat → Nat) : Prop := gI M 112 0 = nI N ∧ (∀ x, x < 6 → gI M 112 (8 + x) = nI (m x)) ∧ ∀ r, r < 18 → ∀ y, y < 6 → gI M 112 (86 + r * 6 + y) = nI (pc r y)
/-- sizes -/
def Sz (N : Nat) (m : Nat → Nat) (pc : Nat → Nat → Nat) : Prop := N ≤ 6 ∧ (∀ x, m x ≤ 3) ∧ ∀ r y, pc r y ≤ 100
theorem ChC.fr {l : List Nat} {M M' : Mem} {N : Nat} {m : Nat → Nat} {pc : Nat → Nat → Nat} (h : ChC M N m pc) (hf : fr l M M') (h3 : 3 ∉ l) (h4 : 4 ∉ l) (h7 : 7 ∉ l) : ChC M' N m pc := by
  unfold ChC
  rw [hf.I h3, hf.I h4, hf.I h7]
  exact h
theorem percentTo_eq {Z : Nat} {M : Mem} {N : Nat} {m : Nat → Nat} {pc : Nat → Nat → Nat} (h : ChC M N m pc) {r y : Nat} (hr : r < 18) (hy : y < 6) : f_X0_percentTo Z M 3 (nI r) (nI y) = some (nI (pc r y), M) := by
  unfold f_X0_percentTo
  simp (disch := omega) only [bd_eq, jn_eq, cl_some, i0, i1, i2, i3, i4, i5, i6, i8, i10, i14, i36, i86, nI_add, nI_mul, rdI_n, rdL_n, wrI_n, wrL_n, nI_ile, nI_ilt]
  rw [h.2.2 r hr y hy]
theorem fill_d_ok {Z : Nat} {M : Mem} {a na : Nat} {v : Int64} (hna : na < 3000) (hZ : na < Z) : OK (f_J7_fill_d0a16 Z M a na v) (fun _ M' => fr [a] M M' ∧ ∀ j, j < na → gL M' a j = v) := by
  unfold f_J7_fill_d0a16
  rw [i0]
  refine lpS (fun n i M1 => f_J7_fill_d0a16_L6 Z a na v n (nI i) M1) (fun x => OK x _) (fun i M1 => fr [a] M M1 ∧ ∀ j, j < i → gL M1 a j = v) 0 na (by omega) hZ ⟨fr.rfl, fun j hj => absurd hj (by omega)⟩ ?_ ?_
  · intro n x M1 _ hi ⟨hf, hv⟩ K
    rw [f_J7_fill_d0a16_L6]
    simp (disch := omega) only [if_neg (show ¬ na ≤ x by omega), ofN, bd_eq, jn_eq, cl_some, i0, i1, i2, i3, i4, i5, i6, i8, i10, i14, i36, i86, nI_add, nI_mul, rdI_n, rdL_n, wrI_n, wrL_n, nI_ile, nI_ilt]
    refine K _ ⟨fr_sL hf List.mem_cons_self, fun j hj => ?_⟩
    rw [gL_sL]
    by_cases c : j = x
    · rw [if_pos ⟨rfl, c⟩]
    · rw [if_neg (fun z => c z.2)]
      exact hv j (by omega)
  · intro n M1 ⟨hf, hv⟩
    rw [f_J7_fill_d0a16_L6]
    simp only [ofN, ge_self, if_true]
    exact OK.ret ⟨hf, hv⟩
theorem addParts_ok {Z : Nat} {M : Mem} {N : Nat} {m : Nat → Nat} {pc : Nat → Nat → Nat} (h : ChC M N m pc) (hz : Sz N m pc) (hZ : 10 < Z) {A : Nat → Nat → Int64} (hA : MT 17 M A) {x r w : Nat} (hx : x < 6) (hr : r < 18) (hw : w ≤ 10) :
    OK (f_X1_addParts Z M (nI x) (nI r) (nI w)) (fun _ M' => fr [17] M M' ∧ MT 17 M' (fun a b => if a = x ∧ b < N then A a b + lN (w * pc r b) else A a b)) := by
  have hN := hz.1
  unfold f_X1_addParts
  rw [i0]
  refine lpS (fun n i M1 => f_X1_addParts_L3 Z (nI x) (nI r) (nI w) n (nI i) M1) (fun x => OK x _) (fun i M1 => fr [17] M M1 ∧ MT 17 M1 (fun a b => if a = x ∧ b < i then A a b + lN (w * pc r b) else A a b)) 0 N (by omega) (by omega) ⟨fr.rfl, hA.congr rfl (fun a _ b _ => if_neg (by omega))⟩ ?_ ?_
  · intro n y M1 _ hi ⟨hf, hv⟩ K
    have hc := h.fr hf (by decide) (by decide) (by decide)
    have hp := percentTo_eq (Z := Z) hc hr (y := y) (by omega)
    have hwp : w * pc r y ≤ 10 * 100 := Nat.mul_le_mul hw (hz.2.2 r y)
    rw [f_X1_addParts_L3, bd_eq, hc.1]
    simp (disch := omega) only [hp, if_neg (show ¬ N ≤ y by omega), nI_l, hv x hx y (by omega), bd_eq, jn_eq, cl_some, i0, i1, i2, i3, i4, i5, i6, i8, i10, i14, i36, i86, nI_add, nI_mul, rdI_n, rdL_n, wrI_n, wrL_n, nI_ile, nI_ilt]
    refine K _ ⟨fr_sL hf List.mem_cons_self, (hv.set (by omega)).congr rfl (fun a ha b hb => ?_)⟩
    dsimp only [mst]
    by_cases c : a = x ∧ b = y
    · obtain ⟨rfl, rfl⟩ := c
      simp
    · by_cases d : a = x ∧ b < y
      · rw [if_pos ⟨d.1, by omega⟩, if_neg c, if_pos d]
      · rw [if_neg (by omega), if_neg c, if_neg d]
  · intro n M1 ⟨hf, hv⟩
    have hc := h.fr hf (by decide) (by decide) (by decide)
    rw [f_X1_addParts_L3, bd_eq, hc.1]
    simp only [ge_self, if_true]
    exact OK.ret ⟨hf, hv⟩
/-- the parts of a step under weights -/
def Tp (m : Nat → Nat) (pc : Nat → Nat → Nat) (W : Nat → Nat) (x y : Nat) : Nat := sm (m x) (fun a => W (x * 3 + a) * pc (x * 3 + a) y)
theorem rowOf_eq {Z : Nat} {M : Mem} {x a : Nat} : f_X11_rowOf Z M (nI x) (nI a) = some (nI (x * 3 + a), M) := by
  unfold f_X11_rowOf
  simp only [bd_eq, jn_eq, cl_some, i0, i1, i2, i3, i4, i5, i6, i8, i10, i14, i36, i86, nI_add, nI_mul, rdI_n, rdL_n, wrI_n, wrL_n, nI_ile, nI_ilt]
theorem fillParts_ok {Z : Nat} {M : Mem} {N : Nat} {m : Nat → Nat} {pc : Nat → Nat → Nat} (h : ChC M N m pc) (hz : Sz N m pc) (hZ : 40 < Z) {w : Nat} {W : Nat → Nat} (hw17 : w ≠ 17) (hW : ∀ r, r < 3 * N → gI M w r = nI (W r)) (hW10 : ∀ r, W r ≤ 10) :
    OK (f_X1_fillParts Z M w) (fun _ M' => fr [17] M M' ∧ MT 17 M' (fun x y => if x < N ∧ y < N then lN (Tp m pc W x y) else 0)) := by
  have hN := hz.1
  unfold f_X1_fillParts
  obtain ⟨_, M1, e1, hf1, hv1⟩ := fill_d_ok (Z := Z) (M := M) (a := 17) (na := 36) (v := 0) (by decide) (by omega)
  rw [e1, cl_some, i0]
  refine lpS (fun n i M1 => f_X1_fillParts_L10 Z w n (nI i) M1) (fun x => OK x _) (fun i M1 => fr [17] M M1 ∧ MT 17 M1 (fun x y => if x < i ∧ y < N then lN (Tp m pc W x y) else 0)) 0 N (by omega) (by omega) ⟨hf1, fun x hx y hy => by rw [hv1 _ (by omega)]; exact (if_neg (by omega)).symm⟩ ?_ ?_
  · intro n x M2 _ hi ⟨hf, hv⟩ K
    have hc := h.fr hf (by decide) (by decide) (by decide)
    have hmx := hz.2.1 x
    rw [f_X1_fillParts_L10, bd_eq, hc.1]
    simp (disch := omega) only [if_neg (show ¬ N ≤ x by omega), bd_eq, jn_eq, cl_some, i0, i1, i2, i3, i4, i5, i6, i8, i10, i14, i36, i86, nI_add, nI_mul, rdI_n, rdL_n, wrI_n, wrL_n, nI_ile, nI_ilt]
    refine lpS (fun n' a M1 => f_X1_fillParts_L23 Z w (nI x) (fun M19 => f_X1_fillParts_L10 Z w n (nI (x + 1)) M19) n' (nI a) M1) (fun x => OK x _) (fun a M3 => fr [17] M M3 ∧ MT 17 M3 (fun x' y => if x' < x ∧ y < N then lN (Tp m pc W x' y) else if x' = x ∧ y < N then lN (sm a (fun a => W (x * 3 + a) * pc (x * 3 + a) y)) else 0)) 0 (m x) (by omega) (by omega) ⟨hf, hv.congr rfl (fun a _ b _ => ?_)⟩ ?_ ?_
    · by_cases c : a < x ∧ b < N
      · rw [if_pos c, if_pos c]
      · rw [if_neg c, if_neg c]
        split <;> rfl
    · intro n' a M3 _ ha ⟨hf3, hv3⟩ K3
      have hc3 := h.fr hf3 (by decide) (by decide) (by decide)
      have hw3 : gI M3 w (x * 3 + a) = nI (W (x * 3 + a)) := by rw [hf3.I (by simp [hw17])]; exact hW _ (by omega)
      have hwb := hW10 (x * 3 + a)
      rw [f_X1_fillParts_L23]
      simp (disch := omega) only [hc3.2.1 x (by omega), if_neg (show ¬ m x ≤ a by omega), rowOf_eq, hw3, bd_eq, jn_eq, cl_some, i0, i1, i2, i3, i4, i5, i6, i8, i10, i14, i36, i86, nI_add, nI_mul, rdI_n, rdL_n, wrI_n, wrL_n, nI_ile, nI_ilt]
      have step : ∀ M4, fr [17] M M4 → MT 17 M4 (fun a' b => if a' = x ∧ b < N then (if a' < x ∧ b < N then lN (Tp m pc W a' b) else if a' = x ∧ b < N then lN (sm a (fun a => W (x * 3 + a) * pc (x * 3 + a) b)) else 0) + lN (W (x * 3 + a) * pc (x * 3 + a) b) else (if a' < x ∧ b < N then lN (Tp m pc W a' b) else if a' = x ∧ b < N then lN (sm a (fun a => W (x * 3 + a) * pc (x * 3 + a) b)) else 0)) → OK (f_X1_fillParts_L23 Z w (nI x) (fun M19 => f_X1_fillParts_L10 Z w n (nI (x + 1)) M19) n' (nI (a + 1)) M4) _ := fun M4 hf4 hv4 => K3 M4 ⟨hf4, hv4.congr rfl (fun a' ha' b hb => by
        by_cases c : a' < x ∧ b < N
        · rw [if_pos c, if_neg (by omega), if_pos c]
        · rw [if_neg c]
          by_cases d : a' = x ∧ b < N
          · rw [if_pos d, if_pos d, if_neg c, if_pos d, lN_add]
            rfl
          · rw [if_neg d, if_neg d, if_neg c, if_neg d])⟩
      by_cases hw0 : W (x * 3 + a) ≤ 0
      · rw [if_pos hw0]
        refine step M3 hf3 (hv3.congr rfl (fun a' ha' b hb => ?_))
        have e0 : W (x * 3 + a) = 0 := by omega
        rw [e0, Nat.zero_mul]
        show (if a' = x ∧ b < N then _ + (0 : Int64) else _) = _
        rw [Int64.add_zero]
        split <;> rfl
      · rw [if_neg hw0]
        obtain ⟨_, M4, e4, hf4, hv4⟩ := addParts_ok (Z := Z) hc3 hz (by omega) hv3 (x := x) (r := x * 3 + a) (by omega) (by omega) hwb
        rw [e4, cl_some]
        exact step M4 (hf3.trans hf4) hv4
    · intro n' M3 ⟨hf3, hv3⟩
      have hc3 := h.fr hf3 (by decide) (by decide) (by decide)
      rw [f_X1_fillParts_L23]
      simp (disch := omega) only [hc3.2.1 x (by omega), ge_self, if_true, bd_eq, jn_eq, cl_some, i0, i1, i2, i3, i4, i5, i6, i8, i10, i14, i36, i86, nI_add, nI_mul, rdI_n, rdL_n, wrI_n, wrL_n, nI_ile, nI_ilt]
      refine K M3 ⟨hf3, hv3.congr rfl (fun a _ b _ => ?_)⟩
      by_cases c : a < x ∧ b < N
      · rw [if_pos c, if_pos ⟨by omega, c.2⟩]
      · by_cases d : a = x ∧ b < N
        · rw [if_neg c, if_pos d, if_pos ⟨by omega, d.2⟩, d.1]
          rfl
        · rw [if_neg c, if_neg d, if_neg (by omega)]
  · intro n M2 ⟨hf, hv⟩
    have hc := h.fr hf (by decide) (by decide) (by decide)
    rw [f_X1_fillParts_L10, bd_eq, hc.1]
    simp only [ge_self, if_true]
    exact OK.ret ⟨hf, hv⟩

