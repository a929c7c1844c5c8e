/-! which sets hold -/
theorem Tp_congr {P : Nat → Int32} {W W' : Nat → Nat} (h : ∀ x, x < cN P → ∀ a, a < cM P x → W (x * 3 + a) = W' (x * 3 + a)) : ∀ x y, x < cN P → Tp (cM P) (cP P) W x y = Tp (cM P) (cP P) W' x y := fun x y hx => sm_congr (fun a ha => by rw [h x hx a ha])
theorem uN_congr {P : Nat → Int32} {W W' : Nat → Nat} (h : ∀ x, x < cN P → ∀ a, a < cM P x → W (x * 3 + a) = W' (x * 3 + a)) {b st H : Nat} : uN P W b st H = uN P W' b st H := sm_congr (fun x hx => by
  have e : (fun t => fNow P W st t x) = fun t => fNow P W' st t x := funext (fun t => Fl_congr (Tp_congr h) t x)
  rw [e, sm_congr (fun a ha => by rw [h x hx a ha])])
theorem gRun_congr {P : Nat → Int32} {W W' : Nat → Nat} (h : ∀ x, x < cN P → ∀ a, a < cM P x → W (x * 3 + a) = W' (x * 3 + a)) {st H : Nat} : gRun P W st H = gRun P W' st H := smL_congr (fun x hx => by
  have e : (fun t => lN (fNow P W st t x)) = fun t => lN (fNow P W' st t x) := funext (fun t => congrArg lN (Fl_congr (Tp_congr h) t x))
  have e2 : gNow P W x = gNow P W' x := smL_congr (fun a ha => by rw [h x hx a ha])
  rw [e, e2])
/-! no sum is as small as the least long -/
theorem dif_add (A B C D : Int64) : (A - B) + (C - D) = (A + C) - (B + D) := by
  rw [Int64.sub_eq_add_neg, Int64.sub_eq_add_neg, Int64.sub_eq_add_neg, Int64.neg_add, Int64.sub_eq_add_neg]
  ac_rfl
theorem smL_dif {n : Nat} {f : Nat → Int64} {a b : Nat → Nat} (h : ∀ i, i < n → f i = lN (a i) - lN (b i)) : smL n f = lN (sm n a) - lN (sm n b) := by
  induction n with
  | zero =>
    show (0 : Int64) = lN 0 - lN 0
    decide
  | succ n ih =>
    show smL n f + f n = lN (sm n a + a n) - lN (sm n b + b n)
    rw [ih (fun i hi => h i (by omega)), h n (by omega), dif_add, lN_add, lN_add]
theorem toI64_dif (v : Int32) : v.toInt64 = lN v.toInt.toNat - lN (-v.toInt).toNat := by
  have h1 := Int32.toInt_lt v
  have h2 := Int32.le_toInt v
  apply Int64.toInt_inj.mp
  rw [Int32.toInt_toInt64, Int64.toInt_sub, lN_toI (by omega), lN_toI (by omega), Int.bmod_eq_of_le (by omega) (by omega)]
  omega
theorem mul_dif {u p q : Nat} : lN u * (lN p - lN q) = lN (u * p) - lN (u * q) := by
  rw [Int64.mul_sub, lN_mul, lN_mul]
theorem gRun_min {P : Nat → Int32} {W : Nat → Nat} {st H : Nat} (hV : VP P) (hK : WOK P W) (h1 : 1 ≤ H) (hH : H ≤ 5) : (-9223372036854775808 : Int64) < gRun P W st H := by
  generalize hp : (fun x => sm (cM P x) (fun a => W (x * 3 + a) * (P (14 + (x * 3 + a))).toInt.toNat)) = GA
  generalize hq : (fun x => sm (cM P x) (fun a => W (x * 3 + a) * (-(P (14 + (x * 3 + a))).toInt).toNat)) = GB
  have eg : ∀ x, gNow P W x = lN (GA x) - lN (GB x) := fun x => by
    rw [← hp, ← hq]
    exact smL_dif (fun a _ => by rw [toI64_dif, mul_dif])
  have er : gRun P W st H = lN (sm (cN P) (fun x => horN (fun t => fNow P W st t x) H * GA x)) - lN (sm (cN P) (fun x => horN (fun t => fNow P W st t x) H * GB x)) := smL_dif (fun x _ => by rw [lN_hor, eg, mul_dif])
  have h5 := horN_sum (N := cN P) (F := fun t x => fNow P W st t x) (fun t => Fl_sum (fun x hx => Nat.le_of_eq (hK.T hV x hx)) t) H
  have h6 : H * 1000 ^ H ≤ 5 * 1000 ^ 5 := Nat.mul_le_mul hH (Nat.pow_le_pow_right (by decide) hH)
  have e6 : 5 * 1000 ^ 5 = 5 * 10 ^ 15 := by decide
  have bd9 : ∀ G : Nat → Nat, (∀ x, x < cN P → G x ≤ 9990) → sm (cN P) (fun x => horN (fun t => fNow P W st t x) H * G x) ≤ 9990 * (5 * 10 ^ 12) := fun G hG => by
    have h2 : sm (cN P) (fun x => horN (fun t => fNow P W st t x) H * G x) ≤ sm (cN P) (fun x => 9990 * horN (fun t => fNow P W st t x) H) := sm_le (fun x hx => by
      rw [Nat.mul_comm]
      exact Nat.mul_le_mul_right _ (hG x hx))
    rw [sm_mul] at h2
    omega
  have gb : ∀ (f : Nat → Nat), (∀ r, r < 18 → f r ≤ 999) → ∀ x, x < cN P → sm (cM P x) (fun a => W (x * 3 + a) * f (x * 3 + a)) ≤ 9990 := fun f hf x hx => by
    have h3 : sm (cM P x) (fun a => W (x * 3 + a) * f (x * 3 + a)) ≤ sm (cM P x) (fun a => 999 * W (x * 3 + a)) := sm_le (fun a ha => by
      have := hV.sz.2.1 x
      have := hV.2.1.2.1
      rw [Nat.mul_comm]
      exact Nat.mul_le_mul_right _ (hf _ (by omega)))
    rw [sm_mul, hK.2 x hx] at h3
    exact h3
  have b1 := bd9 GA (fun x hx => by
    rw [← hp]
    exact gb (fun r => (P (14 + r)).toInt.toNat) (fun r hr => by have := hV.2.2.2.2.1 r hr; omega) x hx)
  have b2 := bd9 GB (fun x hx => by
    rw [← hq]
    exact gb (fun r => (-(P (14 + r)).toInt).toNat) (fun r hr => by have := hV.2.2.2.2.1 r hr; omega) x hx)
  rw [er]
  generalize sm (cN P) (fun x => horN (fun t => fNow P W st t x) H * GA x) = A at *
  generalize sm (cN P) (fun x => horN (fun t => fNow P W st t x) H * GB x) = B at *
  have e0 : (-9223372036854775808 : Int64).toInt = -9223372036854775808 := by decide
  rw [Int64.lt_iff_toInt_lt, e0, Int64.toInt_sub, lN_toI (by omega), lN_toI (by omega), Int.bmod_eq_of_le (by omega) (by omega)]
  omega
/-! all actions permitted -/
def al (S : Nat → Int32) (c : Nat → Nat) : Nat → Bool
  | 0 => true
  | n + 1 => al S c n && pmt S n (c n)
theorem al_no {S : Nat → Int32} {c : Nat → Nat} {i : Nat} (h : pmt S i (c i) = false) : ∀ n, i < n → al S c n = false
  | 0, hn => absurd hn (by omega)
  | n + 1, hn => by
    show (al S c n && pmt S n (c n)) = false
    by_cases e : i = n
    · rw [← e, h, Bool.and_false]
    · rw [al_no h n (by omega), Bool.false_and]
theorem al_c {S S' : Nat → Int32} {c : Nat → Nat} (h : ∀ i, 22 ≤ i → i < 40 → S' i = S i) : ∀ n, n ≤ 6 → (∀ y, y < n → c y < 3) → al S' c n = al S c n
  | 0, _, _ => rfl
  | n + 1, hn, hc => by
    have := hc n (by omega)
    show (al S' c n && pmt S' n (c n)) = (al S c n && pmt S n (c n))
    rw [al_c h n (by omega) (fun y hy => hc y (by omega))]
    unfold pmt
    rw [h _ (by omega) (by omega)]
theorem isPermittedSet_eq {Z : Nat} {M : Mem} {P S : Nat → Int32} (hV : VP P) (hR : RS P M 10 S) (h3 : gI M 3 0 = nI (cN P)) (hZ : 10 < Z) {c : Nat → Nat} (hc : CHo P c) (h9 : ∀ y, y < 6 → gI M 99 y = nI (c y)) : f_X5_isPermittedSet Z M = some (bN (al S c (cN P)), M) := by
  have hN := hV.2.1.2.1
  have hm := hV.sz.2.1
  unfold f_X5_isPermittedSet
  rw [i0]
  refine lpS (σ := Unit) (fun n x _ => f_X5_isPermittedSet_L2 Z n (nI x) M) (fun q => q = some (bN (al S c (cN P)), M)) (fun x _ => al S c x = true) 0 (cN P) (s := ()) (by omega) (by omega) rfl ?_ ?_
  · intro n x _ _ hx hI K
    have h1 := hc x hx
    rw [f_X5_isPermittedSet_L2, bd_eq, h3, if_neg (by rw [nI_ile (by omega) (by omega)]; omega), rdI_n (by omega) (by decide), h9 x (by omega), permits_eq hR hm hN hx h1, cl_some]
    by_cases g : pmt S x (c x) = true
    · rw [if_neg (by rw [bN0, g]; decide), i1, nI_add]
      refine K () ?_
      show (al S c x && pmt S x (c x)) = true
      rw [hI, g]
      rfl
    · have g2 : pmt S x (c x) = false := by simpa using g
      rw [if_pos (by rw [bN0]; exact g2), al_no g2 _ hx]
      rfl
  · intro n _ hI
    rw [f_X5_isPermittedSet_L2, bd_eq, h3, if_pos (by rw [nI_ile (by omega) (by omega)]; omega), hI]
    rfl
/-! all budgets hold -/
def hd (P : Nat → Int32) (W : Nat → Nat) (st H : Nat) (lim : Nat → Nat) : Nat → Bool
  | 0 => true
  | n + 1 => hd P W st H lim n && !brG P W st H lim n
theorem hd_no {P : Nat → Int32} {W : Nat → Nat} {st H : Nat} {lim : Nat → Nat} {i : Nat} (h : brG P W st H lim i = true) : ∀ n, i < n → hd P W st H lim n = false
  | 0, hn => absurd hn (by omega)
  | n + 1, hn => by
    show (hd P W st H lim n && !brG P W st H lim n) = false
    by_cases e : i = n
    · rw [← e, h]
      exact Bool.and_false _
    · rw [hd_no h n (by omega), Bool.false_and]
theorem bs0 {c : Nat → Bool} : ∀ n, bs c n = 0 → ∀ i, i < n → c i = false
  | 0, _, i, hi => absurd hi (by omega)
  | n + 1, h, i, hi => by
    have hp : 0 < 2 ^ n := Nat.two_pow_pos n
    unfold bs at h
    by_cases g : c n = true
    · rw [if_pos g] at h
      omega
    · rw [if_neg g] at h
      by_cases e : i = n
      · rw [e]; simpa using g
      · exact bs0 n h i (by omega)
theorem hd_bs {P : Nat → Int32} {W : Nat → Nat} {st H : Nat} {lim : Nat → Nat} : ∀ n, hd P W st H lim n = true → bs (brG P W st H lim) n = 0
  | 0, _ => rfl
  | n + 1, h => by
    have h2 : (hd P W st H lim n && !brG P W st H lim n) = true := h
    rw [Bool.and_eq_true] at h2
    have h3 : brG P W st H lim n = false := by simpa using h2.2
    unfold bs
    rw [h3, if_neg (by decide), hd_bs n h2.1]
theorem brk_hd {P : Nat → Int32} {W : Nat → Nat} {st H : Nat} {lim : Nat → Nat} {n : Nat} (hn : n ≤ 3) : (brk (brG P W st H lim) n = 0) = (hd P W st H lim n = true) := by
  have h2 := bs_lt (c := brG P W st H lim) n
  have h3 : 2 ^ n ≤ 2 ^ 3 := Nat.pow_le_pow_right (by decide) hn
  rw [brk_bs n (by omega), show (0 : Int32) = nI 0 from rfl, nI_eq (by omega) (by omega)]
  refine propext ⟨fun h => ?_, hd_bs n⟩
  apply Classical.byContradiction
  intro h4
  have h5 : hd P W st H lim n = false := by simpa using h4
  have key : ∀ k, k ≤ n → hd P W st H lim k = true := fun k hk => by
    induction k with
    | zero => rfl
    | succ k ih =>
      show (hd P W st H lim k && !brG P W st H lim k) = true
      rw [ih (by omega), bs0 n h k (by omega)]
      rfl
  exact h4 (key n (Nat.le_refl _))
theorem hd_congr {P : Nat → Int32} {W W' : Nat → Nat} (h : ∀ x, x < cN P → ∀ a, a < cM P x → W (x * 3 + a) = W' (x * 3 + a)) {st H : Nat} {lim : Nat → Nat} : ∀ n, hd P W st H lim n = hd P W' st H lim n
  | 0 => rfl
  | n + 1 => by
    show (hd P W st H lim n && !brG P W st H lim n) = (hd P W' st H lim n && !brG P W' st H lim n)
    rw [hd_congr h n]
    unfold brG
    rw [uN_congr h]
theorem holds_eq {Z : Nat} {M : Mem} {P : Nat → Int32} (hV : VP P) (hZ : 60 < Z) {st H : Nat} (h1 : 1 ≤ H) (hH : H ≤ 5) {W : Nat → Nat} (hK : WOK P W) {k : Nat} (hk : k < 729) (h31 : gI M 3 1 = nI (cB P)) (h4 : gI M 10 4 = nI H) (h7 : gI M 96 7 = nI k) (hu : ∀ b, b < cB P → gL M 98 (k * 3 + b) = uRun P W b st H) {p0 p1 : Int32} {lim : Nat → Nat} (hl : ∀ b, b < cB P → (if nI b = p0 then gI M 13 b + p1 else gI M 13 b) = nI (lim b) ∧ lim b ≤ 20000) : f_X5_holds Z M p0 p1 = some (bN (hd P W st H lim (cB P)), M) := by
  have hB := hV.2.1.2.2
  have u9 := unit_le hH
  unfold f_X5_holds
  rw [bd_eq, h4, unitOf_eq (by omega) h1 hH, cl_some, i0]
  refine lpS (σ := Unit) (fun n b _ => f_X5_holds_L14 Z p0 p1 (lN (10 * 1000 ^ (H - 1))) M n (nI b)) (fun q => q = some (bN (hd P W st H lim (cB P)), M)) (fun b _ => hd P W st H lim b = true) 0 (cB P) (s := ()) (by omega) (by omega) rfl ?_ ?_
  · intro n b _ _ hb hI K
    obtain ⟨l1, l2⟩ := hl b hb
    have ub := uN_lt (b := b) (st := st) hV hK h1 hH
    have p9 : lim b * (10 * 1000 ^ (H - 1)) ≤ 20000 * 10 ^ 13 := Nat.mul_le_mul l2 u9
    have K1 := K ()
    have fin : (if uRun P W b st H ≤ (nI (lim b)).toInt64 * lN (10 * 1000 ^ (H - 1)) then f_X5_holds_L14 Z p0 p1 (lN (10 * 1000 ^ (H - 1))) M n (nI b + 1) else some (0, M)) = some (bN (hd P W st H lim (cB P)), M) := by
      rw [uRun_lN, nI_l (by omega), lN_mul]
      by_cases g : brG P W st H lim b = true
      · have g2 : lim b * (10 * 1000 ^ (H - 1)) < uN P W b st H := of_decide_eq_true g
        rw [if_neg (by rw [lN_ile (by omega) (by omega)]; omega), hd_no g _ hb]
        rfl
      · have g3 : brG P W st H lim b = false := by simpa using g
        have g2 : ¬ lim b * (10 * 1000 ^ (H - 1)) < uN P W b st H := of_decide_eq_false g3
        rw [if_pos (by rw [lN_ile (by omega) (by omega)]; omega), i1, nI_add]
        refine K1 ?_
        show (hd P W st H lim b && !brG P W st H lim b) = true
        rw [hI, g3]
        rfl
    rw [f_X5_holds_L14, bd_eq, h31, if_neg (by rw [nI_ile (by omega) (by omega)]; omega), jn_eq]
    by_cases g : nI b = p0
    · rw [if_pos g] at l1
      rw [if_pos g, rdI_n (by omega) (by decide), l1]
      dsimp only
      rw [bd_eq, h7, i3, nI_mul, nI_add, rdL_n (by omega) (by decide), hu b hb]
      exact fin
    · rw [if_neg g] at l1
      rw [if_neg g, rdI_n (by omega) (by decide), l1]
      dsimp only
      rw [bd_eq, h7, i3, nI_mul, nI_add, rdL_n (by omega) (by decide), hu b hb]
      exact fin
  · intro n _ hI
    rw [f_X5_holds_L14, bd_eq, h31, if_pos (by rw [nI_ile (by omega) (by omega)]; omega), hI]
    rfl

