theorem i496 : (496 : Int32) = nI 496 := by decide
theorem i2976 : (2976 : Int32) = nI 2976 := by decide
theorem mc496 (a : Nat) : 496 * a = a * 496 := Nat.mul_comm 496 a
/-- a table of longs, 6 by 496 -/
def LT (o : Nat) (M : Mem) (B : Nat → Nat → Nat) : Prop := ∀ y, y < 6 → ∀ s, s < 496 → gL M o (y * 496 + s) = lN (B y s)
theorem LT.congr {o : Nat} {M M' : Mem} {A B : Nat → Nat → Nat} (h : LT o M A) (hM : gL M' o = gL M o) (hB : ∀ x, x < 6 → ∀ y, y < 496 → B x y = A x y) : LT o M' B := fun x hx y hy => by rw [hM, hB x hx y hy]; exact h x hx y hy
theorem LT.set {o x y : Nat} {M : Mem} {A : Nat → Nat → Nat} {v : Nat} (h : LT o M A) (hy : y < 496) : LT o (sL M o (x * 496 + y) (lN v)) (fun a b => if a = x ∧ b = y then v else A a b) := by
  intro a ha b hb
  rw [gL_sL]
  dsimp only
  by_cases c : a = x ∧ b = y
  · rw [if_pos ⟨rfl, by rw [c.1, c.2]⟩, if_pos c]
  · rw [if_neg (fun z => c (by omega)), if_neg c]
    exact h a ha b hb
theorem LT.at {o : Nat} {M : Mem} {A : Nat → Nat → Nat} (h : LT o M A) {x y : Nat} (hx : x < 6) (hy : y < 496) : gL M o (x * 496 + y) = lN (A x y) := h x hx y hy
theorem goesBy_ok {Z : Nat} {M : Mem} {N : Nat} {m : Nat → Nat} {pc : Nat → Nat → Nat} (hR : ChR M N m pc) (hz : Sz N m pc) (hZ : 3000 < Z) {st H : Nat} {W : Nat → Nat} (hS : SR M st H W) (hW10 : ∀ r, W r ≤ 10) {x a u : Nat} (hx : x < N) (ha : a < m x) (hu : u ≤ 99) {B : Nat → Nat} {C : Nat → Nat → Nat} (hB : ∀ s, s < 496 → gL M 117 (x * 496 + s) = lN (B s)) (hBb : ∀ s, B s ≤ 10 ^ 15) (hC : LT 118 M C) :
    OK (f_X12_goesBy Z M (nI x) (nI a) (nI u)) (fun _ M' => fr [118] M M' ∧ LT 118 M' (fun y s => if y < N ∧ u ≤ s then C y s + B (s - u) * W (x * 3 + a) * pc (x * 3 + a) y else C y s)) := by
  have hN := hz.1
  have hm := hz.2.1 x
  have hw := hW10 (x * 3 + a)
  unfold f_X12_goesBy
  obtain ⟨Q, hQ⟩ : ∃ Q : Unit → Mem → Prop, Q = (fun _ M' => fr [118] M M' ∧ LT 118 M' (fun y s => if y < N ∧ u ≤ s then C y s + B (s - u) * W (x * 3 + a) * pc (x * 3 + a) y else C y s)) := ⟨_, rfl⟩
  rw [← hQ, i0]
  refine lpS (fun n i M1 => f_X12_goesBy_L3 Z (nI x) (nI a) (nI u) n (nI i) M1) (fun r => OK r Q) (fun i M1 => fr [118] M M1 ∧ LT 118 M1 (fun y s => if y < N ∧ u ≤ s ∧ s < i + u then C y s + B (s - u) * W (x * 3 + a) * pc (x * 3 + a) y else C y s)) 0 (496 - u) (by omega) (by omega) ⟨fr.rfl, hC.congr rfl (fun y _ s _ => if_neg (by omega))⟩ ?_ ?_
  · intro n i M1 _ hi ⟨f1, t1⟩ K
    have hR1 := hR.fr f1 (by decide)
    have hS1 := hS.fr f1 (by decide)
    have c0 : gL M1 117 (x * 496 + i) = lN (B i) := by rw [f1.L (by decide)]; exact hB i (by omega)
    have hb := hBb i
    have hbw : B i * W (x * 3 + a) ≤ 10 ^ 15 * 10 := Nat.mul_le_mul hb hw
    rw [f_X12_goesBy_L3]
    simp (disch := omega) only [nI_add, i496, if_neg (show ¬ 496 ≤ i + u by omega), nI_ile, nI_mul, mc496, rdL_n, c0, weightOf_eq hS1 (show x * 3 + a < 18 by omega), cl_some, i0, i1]
    generalize hkk : (fun (M14 : Mem) => f_X12_goesBy_L3 Z (nI x) (nI a) (nI u) n (nI (i + 1)) M14) = kk
    have K1 : ∀ M2, (fr [118] M M2 ∧ LT 118 M2 (fun y s => if y < N ∧ u ≤ s ∧ s < i + 1 + u then C y s + B (s - u) * W (x * 3 + a) * pc (x * 3 + a) y else C y s)) → OK (kk M2) Q := by rw [← hkk]; exact K
    by_cases h0 : B i * W (x * 3 + a) = 0
    · obtain ⟨n9, hn9⟩ : ∃ n9, Z = n9 + 1 := ⟨Z - 1, by omega⟩
      rw [show f_X12_goesBy_L39 Z (nI x) (nI a) (nI u) (nI i) (lN (B i)) (nI (W (x * 3 + a))) kk Z = f_X12_goesBy_L39 Z (nI x) (nI a) (nI u) (nI i) (lN (B i)) (nI (W (x * 3 + a))) kk (n9 + 1) by rw [← hn9], f_X12_goesBy_L39]
      simp (disch := omega) only [hR1.1, if_neg (show ¬ N ≤ 0 by omega), nI_ile, i0, rdI_n, nI_l, lN_mul, h0]
      rw [if_pos (show lN 0 ≤ 0 by decide)]
      refine K1 M1 ⟨f1, t1.congr rfl (fun y _ s _ => ?_)⟩
      by_cases c : y < N ∧ u ≤ s ∧ s < i + u
      · rw [if_pos c, if_pos (by omega)]
      · rw [if_neg c]
        by_cases d : y < N ∧ u ≤ s ∧ s < i + 1 + u
        · rw [if_pos d, show s - u = i by omega, h0, Nat.zero_mul, Nat.add_zero]
        · rw [if_neg d]
    · refine lpS (fun n y M2 => f_X12_goesBy_L39 Z (nI x) (nI a) (nI u) (nI i) (lN (B i)) (nI (W (x * 3 + a))) kk n (nI y) M2) (fun r => OK r Q) (fun y M2 => fr [118] M M2 ∧ LT 118 M2 (fun y' s => if y' < N ∧ u ≤ s ∧ (s < i + u ∨ (s = i + u ∧ y' < y)) then C y' s + B (s - u) * W (x * 3 + a) * pc (x * 3 + a) y' else C y' s)) 0 N (by omega) (by omega) ⟨f1, t1.congr rfl (fun y _ s _ => ?_)⟩ ?_ ?_
      · by_cases c : y < N ∧ u ≤ s ∧ s < i + u
        · rw [if_pos c, if_pos (by omega)]
        · rw [if_neg c, if_neg (by omega)]
      · intro n2 y M2 _ hy ⟨f2, t2⟩ K2
        have hR2 := hR.fr f2 (by decide)
        have hp := hz.2.2 (x * 3 + a) y
        have c1 : gL M2 118 (y * 496 + i + u) = lN (C y (i + u)) := by
          rw [Nat.add_assoc, t2.at (show y < 6 by omega) (show i + u < 496 by omega), if_neg (by omega)]
        have hpos : ¬ (lN (B i * W (x * 3 + a)) ≤ (0 : Int64)) := by
          rw [l0, lN_ile (by omega) (by decide)]
          omega
        rw [f_X12_goesBy_L39]
        simp (disch := omega) only [hR2.1, if_neg (show ¬ N ≤ y by omega), nI_ile, nI_l, if_neg hpos, i0, i1, i496, nI_mul, nI_add, mc496, rdI_n, rdL_n, c1, percentBy_eq hR2 (show x * 3 + a < 18 by omega) (show y < 6 by omega), cl_some, wrL_n, lN_mul, lN_add]
        rw [Nat.add_assoc]
        refine K2 _ ⟨fr_sL f2 List.mem_cons_self, (t2.set (x := y) (y := i + u) (by omega)).congr rfl (fun y' _ s _ => ?_)⟩
        by_cases c : y' = y ∧ s = i + u
        · rw [if_pos (by omega), if_pos c, c.1, c.2, Nat.add_sub_cancel]
        · rw [if_neg c]
          by_cases d : y' < N ∧ u ≤ s ∧ (s < i + u ∨ (s = i + u ∧ y' < y))
          · rw [if_pos d, if_pos (by omega)]
          · rw [if_neg d, if_neg (by omega)]
      · intro n2 M2 ⟨f2, t2⟩
        have hR2 := hR.fr f2 (by decide)
        rw [f_X12_goesBy_L39]
        simp (disch := omega) only [hR2.1, ge_self, if_true, i0, rdI_n]
        refine K1 M2 ⟨f2, t2.congr rfl (fun y' _ s _ => ?_)⟩
        by_cases d : y' < N ∧ u ≤ s ∧ s < i + 1 + u
        · rw [if_pos d, if_pos (by omega)]
        · rw [if_neg d, if_neg (by omega)]
  · intro n M1 ⟨f1, t1⟩
    rw [f_X12_goesBy_L3]
    simp (disch := omega) only [nI_add, i496, if_pos (show 496 ≤ 496 - u + u by omega), nI_ile]
    rw [hQ]
    refine OK.ret ⟨f1, t1.congr rfl (fun y _ s _ => ?_)⟩
    by_cases c : y < N ∧ u ≤ s
    · rw [if_pos c, if_pos (by omega)]
    · rw [if_neg c, if_neg (by omega)]
/-- one step of the mass of B, by state and sum -/
def mst1 (m W u : Nat → Nat) (pc : Nat → Nat → Nat) (B : Nat → Nat → Nat) (x y s : Nat) : Nat := sm (m x) (fun a => if u (x * 3 + a) ≤ s then B x (s - u (x * 3 + a)) * W (x * 3 + a) * pc (x * 3 + a) y else 0)
theorem stepsMass_ok {Z : Nat} {M : Mem} {P : Nat → Int32} (hV : VP P) (hP : gI M 112 = P) (hZ : 3000 < Z) {st H : Nat} {W : Nat → Nat} (hS : SR M st H W) (hW10 : ∀ r, W r ≤ 10) {b : Nat} (hb : b < 3) {B : Nat → Nat → Nat} (hB : LT 117 M B) (hBb : ∀ x s, B x s ≤ 10 ^ 15) :
    OK (f_X12_stepsMass Z M (nI b)) (fun _ M' => fr [117, 118] M M' ∧ LT 117 M' (fun y s => if y < cN P then sm (cN P) (fun x => mst1 (cM P) W (fun r => cA P r b) (cP P) B x y s) else 0)) := by
  have hN := hV.2.1
  have hz := hV.sz
  unfold f_X12_stepsMass
  obtain ⟨Q, hQ⟩ : ∃ Q : Unit → Mem → Prop, Q = (fun _ M' => fr [117, 118] M M' ∧ LT 117 M' (fun y s => if y < cN P then sm (cN P) (fun x => mst1 (cM P) W (fun r => cA P r b) (cP P) B x y s) else 0)) := ⟨_, rfl⟩
  rw [← hQ]
  generalize hk1 : (fun (M18 : Mem) => f_X12_stepsMass_L76 Z Z (0 : Int32) M18) = k1
  generalize hk2 : (fun (M4 : Mem) => f_X12_stepsMass_L24 Z (nI b) k1 Z (0 : Int32) M4) = k2
  rw [i0]
  refine lpS (fun n i M1 => f_X12_stepsMass_L2 Z (nI b) k2 n (nI i) M1) (fun r => OK r Q) (fun i M1 => fr [118] M M1 ∧ ∀ j, j < i → gL M1 118 j = 0) 0 2976 (by omega) (by omega) ⟨fr.rfl, fun j h => absurd h (by omega)⟩ ?_ ?_
  · intro n i M1 _ hi ⟨f1, t1⟩ K
    rw [f_X12_stepsMass_L2]
    simp (disch := omega) only [i2976, if_neg (show ¬ 2976 ≤ i by omega), nI_ile, wrL_n, i1, nI_add]
    refine K _ ⟨fr_sL f1 List.mem_cons_self, fun j hj => ?_⟩
    rw [gL_sL]
    by_cases c : j = i
    · rw [if_pos ⟨rfl, c⟩]
    · rw [if_neg (fun z => c z.2)]
      exact t1 j (by omega)
  · intro n M1 ⟨f1, t1⟩
    rw [f_X12_stepsMass_L2, i2976, if_pos (Int32.le_refl _), ← hk2]
    dsimp only
    rw [i0]
    refine lpS (fun n x M2 => f_X12_stepsMass_L24 Z (nI b) k1 n (nI x) M2) (fun r => OK r Q) (fun x M2 => fr [118] M M2 ∧ LT 118 M2 (fun y s => if y < cN P then sm x (fun x => mst1 (cM P) W (fun r => cA P r b) (cP P) B x y s) else 0)) 0 (cN P) (by omega) (by omega) ⟨f1, fun y hy s hs => ?_⟩ ?_ ?_
    · rw [t1 _ (by omega), l0]
      dsimp only
      by_cases c : y < cN P
      · rw [if_pos c]; rfl
      · rw [if_neg c]
    · intro n2 x M2 _ hx ⟨f2, t2⟩ K
      have hR2 := (hV.chR hP).fr f2 (by decide)
      rw [f_X12_stepsMass_L24]
      simp (disch := omega) only [hR2.1, if_neg (show ¬ cN P ≤ x by omega), nI_ile, i0, i1, nI_add, rdI_n]
      generalize hk3 : (fun (M17 : Mem) => f_X12_stepsMass_L24 Z (nI b) k1 n2 (nI (x + 1)) M17) = k3
      have K1 : ∀ M2, (fr [118] M M2 ∧ LT 118 M2 (fun y s => if y < cN P then sm (x + 1) (fun x => mst1 (cM P) W (fun r => cA P r b) (cP P) B x y s) else 0)) → OK (k3 M2) Q := by rw [← hk3]; exact K
      have hm := hz.2.1 x
      refine lpS (fun n a M3 => f_X12_stepsMass_L36 Z (nI b) (nI x) k3 n (nI a) M3) (fun r => OK r Q) (fun a M3 => fr [118] M M3 ∧ LT 118 M3 (fun y s => if y < cN P then sm x (fun x => mst1 (cM P) W (fun r => cA P r b) (cP P) B x y s) + sm a (fun a => if cA P (x * 3 + a) b ≤ s then B x (s - cA P (x * 3 + a) b) * W (x * 3 + a) * cP P (x * 3 + a) y else 0) else 0)) 0 (cM P x) (by omega) (by omega) ⟨f2, t2.congr rfl (fun y _ s _ => ?_)⟩ ?_ ?_
      · by_cases c : y < cN P
        · rw [if_pos c, if_pos c]; rfl
        · rw [if_neg c, if_neg c]
      · intro n3 a M3 _ ha ⟨f3, t3⟩ K3
        have hR3 := (hV.chR hP).fr f3 (by decide)
        have hS3 := hS.fr f3 (by decide)
        have hu := hV.2.2.2.2.2.1 (x * 3 + a) b
        obtain ⟨_, M4, e4, f4, t4⟩ := goesBy_ok (Z := Z) (M := M3) hR3 hz hZ hS3 hW10 hx ha hu (B := B x) (fun s hs => by rw [f3.L (by decide)]; exact hB x (by omega) s hs) (fun s => hBb x s) t3
        rw [f_X12_stepsMass_L36]
        simp (disch := omega) only [hR3.2.1 x (by omega), if_neg (show ¬ cM P x ≤ a by omega), nI_ile, i1, i8, nI_add, rdI_n, usesBy_eq hV (show gI M3 112 = P by rw [f3.I (by decide)]; exact hP) (show x * 3 + a < 18 by omega) hb, cl_some, e4]
        refine K3 M4 ⟨f3.trans f4, t4.congr rfl (fun y _ s _ => ?_)⟩
        show _ = (if y < cN P ∧ cA P (x * 3 + a) b ≤ s then (if y < cN P then _ else 0) + _ else (if y < cN P then _ else 0))
        by_cases c : y < cN P
        · rw [if_pos c, if_pos c]
          show _ + (sm a _ + (if cA P (x * 3 + a) b ≤ s then _ else 0)) = _
          by_cases d : cA P (x * 3 + a) b ≤ s
          · rw [if_pos d, if_pos ⟨c, d⟩, Nat.add_assoc]
          · rw [if_neg d, if_neg (fun z => d z.2), Nat.add_zero]
        · rw [if_neg c, if_neg (fun z => c z.1), if_neg c]
      · intro n3 M3 ⟨f3, t3⟩
        have hR3 := (hV.chR hP).fr f3 (by decide)
        rw [f_X12_stepsMass_L36]
        simp (disch := omega) only [hR3.2.1 x (by omega), ge_self, if_true, i8, nI_add, rdI_n]
        exact K1 M3 ⟨f3, t3⟩
    · intro n2 M2 ⟨f2, t2⟩
      have hR2 := (hV.chR hP).fr f2 (by decide)
      rw [f_X12_stepsMass_L24]
      simp (disch := omega) only [hR2.1, ge_self, if_true, i0, rdI_n]
      rw [← hk1]
      dsimp only
      rw [i0]
      refine lpS (fun n i M3 => f_X12_stepsMass_L76 Z n (nI i) M3) (fun r => OK r Q) (fun i M3 => fr [117] M2 M3 ∧ ∀ j, j < i → gL M3 117 j = gL M2 118 j) 0 2976 (by omega) (by omega) ⟨fr.rfl, fun j h => absurd h (by omega)⟩ ?_ ?_
      · intro n3 i M3 _ hi ⟨f3, t3⟩ K
        rw [f_X12_stepsMass_L76]
        simp (disch := omega) only [i2976, if_neg (show ¬ 2976 ≤ i by omega), nI_ile, rdL_n, wrL_n, i1, nI_add]
        refine K _ ⟨fr_sL f3 List.mem_cons_self, fun j hj => ?_⟩
        rw [gL_sL]
        by_cases c : j = i
        · rw [if_pos ⟨rfl, c⟩, f3.L (by decide), c]
        · rw [if_neg (fun z => c z.2)]
          exact t3 j (by omega)
      · intro n3 M3 ⟨f3, t3⟩
        rw [f_X12_stepsMass_L76, i2976, if_pos (Int32.le_refl _), hQ]
        refine OK.ret ⟨(f2.mono (by decide)).trans (f3.mono (by decide)), fun y hy s hs => ?_⟩
        rw [t3 _ (by omega)]
        exact t2 y hy s hs
/-- the mass at a time, as the reference lays it -/
def BT (P : Nat → Int32) (W : Nat → Nat) (b st t x s : Nat) : Nat := if x < cN P then MS (cN P) (cM P) W (fun r => cA P r b) (cP P) st t x s else 0
theorem BT_le {P : Nat → Int32} {W : Nat → Nat} (hV : VP P) (hK : WOK P W) {b st t x s : Nat} (ht : t ≤ 5) : BT P W b st t x s ≤ 10 ^ 15 := by
  unfold BT
  by_cases c : x < cN P
  · rw [if_pos c]
    have h1 := MS_le (N := cN P) (m := cM P) (W := W) (u := fun r => cA P r b) (pc := cP P) (st := st) t x s
    have h2 := Fl_lt (st := st) (fun x hx => Nat.le_of_eq (hK.T hV x hx)) (t := t) c ht
    omega
  · rw [if_neg c]
    exact Nat.zero_le _
theorem BT_step {P : Nat → Int32} {W : Nat → Nat} {b st t y s : Nat} : (if y < cN P then sm (cN P) (fun x => mst1 (cM P) W (fun r => cA P r b) (cP P) (BT P W b st t) x y s) else 0) = BT P W b st (t + 1) y s := by
  unfold BT
  by_cases c : y < cN P
  · rw [if_pos c, if_pos c]
    refine sm_congr (fun x hx => sm_congr (fun a _ => ?_))
    simp only [if_pos hx]
  · rw [if_neg c, if_neg c]
theorem laysMass_ok {Z : Nat} {M : Mem} {P S : Nat → Int32} (hV : VP P) (hS : VS P S) (hP : gI M 112 = P) (hSM : gI M 109 = S) (hZ : 3000 < Z) {b : Nat} (hb : b < 3) :
    OK (f_X12_laysMass Z M (nI b)) (fun _ M' => fr [117, 118] M M' ∧ LT 117 M' (BT P (sW S) b (pn S 0) (pn S 1))) := by
  have hN := hV.2.1
  have hst := hS.1.2
  have h5 := hS.2.1.2.2
  unfold f_X12_laysMass
  obtain ⟨Q, hQ⟩ : ∃ Q : Unit → Mem → Prop, Q = (fun _ M' => fr [117, 118] M M' ∧ LT 117 M' (BT P (sW S) b (pn S 0) (pn S 1))) := ⟨_, rfl⟩
  rw [← hQ]
  generalize hk2 : (fun (M4 : Mem) => rdI M4 109 54 (0 : Int32) (fun v5 => wrL M4 117 2976 ((496 : Int32) * v5) (1 : Int64) (fun M6 => f_X12_laysMass_L40 Z (nI b) Z (0 : Int32) M6))) = k2
  rw [i0]
  refine lpS (fun n i M1 => f_X12_laysMass_L2 Z (nI b) k2 n (nI i) M1) (fun r => OK r Q) (fun i M1 => fr [117] M M1 ∧ ∀ j, j < i → gL M1 117 j = 0) 0 2976 (by omega) (by omega) ⟨fr.rfl, fun j h => absurd h (by omega)⟩ ?_ ?_
  · intro n i M1 _ hi ⟨f1, t1⟩ K
    rw [f_X12_laysMass_L2]
    simp (disch := omega) only [i2976, if_neg (show ¬ 2976 ≤ i by omega), nI_ile, wrL_n, i1, nI_add]
    refine K _ ⟨fr_sL f1 List.mem_cons_self, fun j hj => ?_⟩
    rw [gL_sL]
    by_cases c : j = i
    · rw [if_pos ⟨rfl, c⟩]
    · rw [if_neg (fun z => c z.2)]
      exact t1 j (by omega)
  · intro n M1 ⟨f1, t1⟩
    have g0 : gI M1 109 0 = nI (pn S 0) := by rw [f1.I (by decide), hSM, hS.1.1]
    rw [f_X12_laysMass_L2, i2976, if_pos (Int32.le_refl _), ← hk2]
    dsimp only
    simp (disch := omega) only [i0, rdI_n, g0, i496, nI_mul, mc496, wrL_n]
    refine lpS (fun n t M2 => f_X12_laysMass_L40 Z (nI b) n (nI t) M2) (fun r => OK r Q) (fun t M2 => fr [117, 118] M M2 ∧ LT 117 M2 (BT P (sW S) b (pn S 0) t)) 0 (pn S 1) (by omega) (by omega) ⟨fr_sL (f1.mono (by decide)) (by decide), fun y hy s hs => ?_⟩ ?_ ?_
    · rw [gL_sL]
      unfold BT
      show _ = lN (if y < cN P then (if y = pn S 0 ∧ s = 0 then 1 else 0) else 0)
      by_cases c : y = pn S 0 ∧ s = 0
      · rw [if_pos ⟨rfl, by omega⟩, if_pos (by omega), if_pos c, l1]
      · rw [if_neg (by omega), t1 _ (by omega), if_neg c, l0]
        split <;> rfl
    · intro n2 t M2 _ ht ⟨f2, t2⟩ K
      have g1 : gI M2 109 1 = nI (pn S 1) := by rw [f2.I (by decide), hSM, hS.2.1.1]
      obtain ⟨_, M3, e3, f3, t3⟩ := stepsMass_ok (Z := Z) (M := M2) hV (by rw [f2.I (by decide)]; exact hP) hZ ((hS.toSR hSM).fr f2 (by decide)) (fun r => hS.2.2.2.2.1 r) hb t2 (fun x s => BT_le hV hS.W (by omega))
      rw [f_X12_laysMass_L40]
      simp (disch := omega) only [g1, if_neg (show ¬ pn S 1 ≤ t by omega), nI_ile, i1, nI_add, rdI_n, e3, cl_some]
      exact K M3 ⟨f2.trans f3, t3.congr rfl (fun y _ s _ => BT_step.symm)⟩
    · intro n2 M2 ⟨f2, t2⟩
      have g1 : gI M2 109 1 = nI (pn S 1) := by rw [f2.I (by decide), hSM, hS.2.1.1]
      rw [f_X12_laysMass_L40]
      simp (disch := omega) only [g1, ge_self, if_true, i1, rdI_n]
      rw [hQ]
      exact OK.ret ⟨f2, t2⟩
