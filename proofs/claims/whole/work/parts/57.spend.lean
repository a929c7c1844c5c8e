theorem i99 : (99 : Int32) = nI 99 := by decide
theorem i495 : (495 : Int32) = nI 495 := by decide
theorem rfR_n {β : Type} {M : Mem} {o f q : Nat} {sh : List SE} {e : SE} {k : Nat → Option β} (h : gR M o f = some q) (hs : sh[q]? = some e) : rfR M o f sh e k = k q := by
  unfold rfR
  rw [h]
  exact if_pos hs
/-- the two rows of the class's sums: here and later -/
def HL (M : Mem) (q r : Nat) : Prop := gR M 92 1 = some q ∧ gR M 92 2 = some r ∧ (q = 93 ∧ r = 94 ∨ q = 94 ∧ r = 93)
theorem HL.sh {M : Mem} {q r : Nat} (h : HL M q r) : SH[q]? = some (1, 2976) ∧ SH[r]? = some (1, 2976) ∧ q ≠ r := by
  rcases h.2.2 with ⟨rfl, rfl⟩ | ⟨rfl, rfl⟩
  · exact ⟨rfl, rfl, by decide⟩
  · exact ⟨rfl, rfl, by decide⟩
theorem HL.fr {M M' : Mem} {q r : Nat} {l : List Nat} (h : HL M q r) (hf : fr l M M') (h9 : 92 ∉ l) : HL M' q r := by
  unfold HL
  rw [hf.R h9]
  exact h
theorem HL.out {M : Mem} {q r : Nat} (h : HL M q r) : (∀ o, o < 92 → o ≠ q ∧ o ≠ r) ∧ 92 ≠ q ∧ 92 ≠ r := by
  rcases h.2.2 with ⟨rfl, rfl⟩ | ⟨rfl, rfl⟩
  · exact ⟨fun o h => by omega, by decide, by decide⟩
  · exact ⟨fun o h => by omega, by decide, by decide⟩
theorem spendTo_ok {Z : Nat} {M : Mem} {N : Nat} {m : Nat → Nat} {pc : Nat → Nat → Nat} (h : ChC M N m pc) (hz : Sz N m pc) (hZ : 10 < Z) {q r : Nat} (hl : HL M q r) {C : Nat → Nat → Nat} (hC : LT r M C) {rr F s0 : Nat} (hr : rr < 18) (hs : s0 < 496) : OK (f_X8_spendTo Z M (nI rr) (lN F) (nI s0)) (fun _ M' => fr [r] M M' ∧ LT r M' (fun y s => if y < N ∧ s = s0 then C y s + F * pc rr y else C y s)) := by
  have hN := hz.1
  have ho := hl.out
  have hq3 : ∀ o, o < 92 → o ∉ [r] := fun o h2 h3 => (ho.1 o h2).2 (List.mem_singleton.mp h3)
  have h92 : 92 ∉ [r] := fun h3 => ho.2.2 (List.mem_singleton.mp h3)
  unfold f_X8_spendTo
  rw [i0]
  refine lpS (fun n y M1 => f_X8_spendTo_L3 Z (nI rr) (lN F) (nI s0) n (nI y) M1) (fun z => OK z _) (fun y M1 => fr [r] M M1 ∧ LT r M1 (fun y' s => if y' < y ∧ s = s0 then C y' s + F * pc rr y' else C y' s)) 0 N (by omega) (by omega) ⟨fr.rfl, hC.congr rfl (fun y _ s _ => if_neg (by omega))⟩ ?_ ?_
  · intro n y M1 _ hy ⟨f1, t1⟩ K
    have h1 := h.fr f1 (hq3 3 (by decide)) (hq3 4 (by decide)) (hq3 7 (by decide))
    have hl1 := hl.fr f1 h92
    have hp := hz.2.2 rr y
    have c1 : gL M1 r (y * 496 + s0) = lN (C y s0) := by rw [t1.at (show y < 6 by omega) hs, if_neg (by omega)]
    rw [f_X8_spendTo_L3, bd_eq, h1.1]
    simp (disch := omega) only [if_neg (show ¬ N ≤ y by omega), nI_ile, rfR_n hl1.2.1 hl1.sh.2.1, i496, nI_mul, nI_add, rdL_n, c1, percentTo_eq h1 hr (show y < 6 by omega), cl_some, wrL_n, nI_l, lN_mul, lN_add, i1]
    refine K _ ⟨fr_sL f1 List.mem_cons_self, (t1.set (x := y) (y := s0) hs).congr rfl (fun y' _ s _ => ?_)⟩
    by_cases c : y' = y ∧ s = s0
    · rw [if_pos (by omega), if_pos c, c.1, c.2]
    · rw [if_neg c]
      by_cases d : y' < y ∧ s = s0
      · rw [if_pos d, if_pos (by omega)]
      · rw [if_neg d, if_neg (by omega)]
  · intro n M1 ⟨f1, t1⟩
    have h1 := h.fr f1 (hq3 3 (by decide)) (hq3 4 (by decide)) (hq3 7 (by decide))
    rw [f_X8_spendTo_L3, bd_eq, h1.1]
    simp only [ge_self, if_true]
    exact OK.ret ⟨f1, t1⟩
/-- what a state adds to the later sums, from the sum i -/
def spa (m W u : Nat → Nat) (pc : Nat → Nat → Nat) (lim : Nat) (B : Nat → Nat → Nat) (i x n y s : Nat) : Nat := sm n (fun a => if s = i + u (x * 3 + a) then (if s ≤ lim then B x i * W (x * 3 + a) * pc (x * 3 + a) y else 0) else 0)
theorem spendFrom_ok {Z : Nat} {M : Mem} {P : Nat → Int32} (hV : VP P) (h : ChC M (cN P) (cM P) (cP P)) (hA : ∀ r, r < 18 → ∀ b, b < 3 → gI M 6 (r * 3 + b) = nI (cA P r b)) (hZ : 20 < Z) {W : Nat → Nat} (hW : ∀ r, r < 3 * cN P → gI M 11 r = nI (W r)) (hW10 : ∀ r, W r ≤ 10) {q r : Nat} (hl : HL M q r) {b i lim : Nat} (hb : b < 3) (hi : i < 496) (hlim : lim < 496) {B C : Nat → Nat → Nat} (hB : LT q M B) (hBb : ∀ x s, B x s ≤ 10 ^ 15) (hC : LT r M C) :
    OK (f_X8_spendFrom Z M (nI b) (nI i) (nI lim)) (fun _ M' => fr [r] M M' ∧ LT r M' (fun y s => if y < cN P then C y s + sm (cN P) (fun x => spa (cM P) W (fun r => cA P r b) (cP P) lim B i x (cM P x) y s) else C y s)) := by
  have hN := hV.2.1
  have hz := hV.sz
  have ho := hl.out
  have hne := hl.sh.2.2
  have hq3 : ∀ o, o < 92 → o ∉ [r] := fun o h2 h3 => (ho.1 o h2).2 (List.mem_singleton.mp h3)
  have h92 : 92 ∉ [r] := fun h3 => ho.2.2 (List.mem_singleton.mp h3)
  have hqr : q ∉ [r] := fun h3 => hne (List.mem_singleton.mp h3)
  unfold f_X8_spendFrom
  obtain ⟨Q, hQ⟩ : ∃ Q : Unit → Mem → Prop, Q = (fun _ M' => fr [r] M M' ∧ LT r M' (fun y s => if y < cN P then C y s + sm (cN P) (fun x => spa (cM P) W (fun r => cA P r b) (cP P) lim B i x (cM P x) y s) else C y s)) := ⟨_, rfl⟩
  rw [← hQ, i0]
  refine lpS (fun n x M1 => f_X8_spendFrom_L3 Z (nI b) (nI i) (nI lim) n (nI x) M1) (fun z => OK z Q) (fun x M1 => fr [r] M M1 ∧ LT r M1 (fun y s => if y < cN P then C y s + sm x (fun x => spa (cM P) W (fun r => cA P r b) (cP P) lim B i x (cM P x) y s) else C y s)) 0 (cN P) (by omega) (by omega) ⟨fr.rfl, hC.congr rfl (fun y _ s _ => ?_)⟩ ?_ ?_
  · by_cases c : y < cN P
    · rw [if_pos c]; rfl
    · rw [if_neg c]
  · intro n x M1 _ hx ⟨f1, t1⟩ K
    have h1 := h.fr f1 (hq3 3 (by decide)) (hq3 4 (by decide)) (hq3 7 (by decide))
    have hl1 := hl.fr f1 h92
    have c0 : gL M1 q (x * 496 + i) = lN (B x i) := by rw [f1.L hqr]; exact hB x (by omega) i hi
    have hb15 := hBb x i
    have hm := hz.2.1 x
    rw [f_X8_spendFrom_L3, bd_eq, h1.1]
    simp (disch := omega) only [if_neg (show ¬ cN P ≤ x by omega), nI_ile, rfR_n hl1.1 hl1.sh.1, i496, nI_mul, nI_add, rdL_n, c0, l0, lN_ile, i0, i1]
    by_cases h0 : B x i = 0
    · rw [if_pos (show B x i ≤ 0 by omega)]
      refine K M1 ⟨f1, t1.congr rfl (fun y _ s _ => ?_)⟩
      by_cases c : y < cN P
      · rw [if_pos c, if_pos c]
        have e : spa (cM P) W (fun r => cA P r b) (cP P) lim B i x (cM P x) y s = 0 := by
          unfold spa
          rw [sm_congr (g := fun _ => 0) (fun a _ => ?_), sm_zero]
          rw [h0, Nat.zero_mul, Nat.zero_mul]
          split
          · split <;> rfl
          · rfl
        show C y s + (sm x _ + spa (cM P) W (fun r => cA P r b) (cP P) lim B i x (cM P x) y s) = _
        rw [e, Nat.add_zero]
      · rw [if_neg c, if_neg c]
    · rw [if_neg (show ¬ B x i ≤ 0 by omega)]
      generalize hkk : (fun (M22 : Mem) => f_X8_spendFrom_L3 Z (nI b) (nI i) (nI lim) n (nI (x + 1)) M22) = kk
      have K1 : ∀ M2, (fr [r] M M2 ∧ LT r M2 (fun y s => if y < cN P then C y s + sm (x + 1) (fun x => spa (cM P) W (fun r => cA P r b) (cP P) lim B i x (cM P x) y s) else C y s)) → OK (kk M2) Q := by rw [← hkk]; exact K
      refine lpS (fun n a M2 => f_X8_spendFrom_L40 Z (nI b) (nI i) (nI lim) (nI x) (lN (B x i)) kk n (nI a) M2) (fun z => OK z Q) (fun a M2 => fr [r] M M2 ∧ LT r M2 (fun y s => if y < cN P then C y s + sm x (fun x => spa (cM P) W (fun r => cA P r b) (cP P) lim B i x (cM P x) y s) + spa (cM P) W (fun r => cA P r b) (cP P) lim B i x a y s else C y s)) 0 (cM P x) (by omega) (by omega) ⟨f1, t1.congr rfl (fun y _ s _ => ?_)⟩ ?_ ?_
      · by_cases c : y < cN P
        · rw [if_pos c, if_pos c]; rfl
        · rw [if_neg c, if_neg c]
      · intro n2 a M2 _ ha ⟨f2, t2⟩ K2
        have h2 := h.fr f2 (hq3 3 (by decide)) (hq3 4 (by decide)) (hq3 7 (by decide))
        have hl2 := hl.fr f2 h92
        have hu := hV.2.2.2.2.2.1 (x * 3 + a) b
        have hw := hW10 (x * 3 + a)
        have ew : gI M2 11 (x * 3 + a) = nI (W (x * 3 + a)) := by rw [f2.I (hq3 11 (by decide))]; exact hW _ (by omega)
        have ea : f_X0_amountOf Z M2 3 (nI (x * 3 + a)) (nI b) = some (nI (cA P (x * 3 + a) b), M2) := by
          unfold f_X0_amountOf
          simp (disch := omega) only [bd_eq, jn_eq, cl_some, i0, i1, i2, i3, i4, i5, i6, i8, i10, i14, i36, i86, nI_add, nI_mul, rdI_n, rdL_n, wrI_n, wrL_n, nI_ile, nI_ilt]
          rw [f2.I (hq3 6 (by decide)), hA _ (by omega) b hb]
        have step : ∀ M4, fr [r] M M4 → LT r M4 (fun y s => if y < cN P then C y s + sm x (fun x => spa (cM P) W (fun r => cA P r b) (cP P) lim B i x (cM P x) y s) + spa (cM P) W (fun r => cA P r b) (cP P) lim B i x (a + 1) y s else C y s) → OK (f_X8_spendFrom_L40 Z (nI b) (nI i) (nI lim) (nI x) (lN (B x i)) kk n2 (nI (a + 1)) M4) Q := fun M4 g1 g2 => K2 M4 ⟨g1, g2⟩
        have skip : (W (x * 3 + a) = 0 ∨ lim < i + cA P (x * 3 + a) b) → LT r M2 (fun y s => if y < cN P then C y s + sm x (fun x => spa (cM P) W (fun r => cA P r b) (cP P) lim B i x (cM P x) y s) + spa (cM P) W (fun r => cA P r b) (cP P) lim B i x (a + 1) y s else C y s) := fun hz0 => t2.congr rfl (fun y _ s _ => by
          by_cases c : y < cN P
          · rw [if_pos c, if_pos c]
            show _ + (spa (cM P) W (fun r => cA P r b) (cP P) lim B i x a y s + (if s = i + cA P (x * 3 + a) b then (if s ≤ lim then B x i * W (x * 3 + a) * cP P (x * 3 + a) y else 0) else 0)) = _
            rcases hz0 with e | e
            · rw [e, Nat.mul_zero, Nat.zero_mul]
              split
              · split <;> rfl
              · rfl
            · by_cases d : s = i + cA P (x * 3 + a) b
              · rw [if_pos d, if_neg (by omega), Nat.add_zero]
              · rw [if_neg d, Nat.add_zero]
          · rw [if_neg c, if_neg c])
        rw [f_X8_spendFrom_L40]
        simp (disch := omega) only [rdI_n, h2.2.1 x (by omega), if_neg (show ¬ cM P x ≤ a by omega), nI_ile, nI_ilt, rowOf_eq, ea, ew, cl_some, jn_eq, i0, i1, nI_add]
        by_cases hw0 : W (x * 3 + a) ≤ 0
        · rw [if_pos hw0]
          exact step M2 f2 (skip (Or.inl (by omega)))
        · rw [if_neg hw0]
          by_cases hs9 : lim < i + cA P (x * 3 + a) b
          · rw [if_pos hs9]
            exact step M2 f2 (skip (Or.inr hs9))
          · rw [if_neg hs9, nI_l (by omega), lN_mul]
            obtain ⟨_, M4, e4, f4, t4⟩ := spendTo_ok (Z := Z) (M := M2) h2 hz (by omega) hl2 t2 (rr := x * 3 + a) (F := B x i * W (x * 3 + a)) (s0 := i + cA P (x * 3 + a) b) (by omega) (by omega)
            rw [e4, cl_some]
            refine step M4 (f2.trans f4) (t4.congr rfl (fun y _ s _ => ?_))
            by_cases c : y < cN P
            · rw [if_pos c]
              show _ + (spa (cM P) W (fun r => cA P r b) (cP P) lim B i x a y s + (if s = i + cA P (x * 3 + a) b then (if s ≤ lim then B x i * W (x * 3 + a) * cP P (x * 3 + a) y else 0) else 0)) = _
              by_cases d : s = i + cA P (x * 3 + a) b
              · rw [if_pos d, if_pos (by omega), if_pos ⟨c, d⟩, if_pos c, Nat.add_assoc (C y s + _)]
              · rw [if_neg d, if_neg (fun z => d z.2), if_pos c, Nat.add_zero]
            · rw [if_neg c, if_neg (fun z => c z.1), if_neg c]
      · intro n2 M2 ⟨f2, t2⟩
        have h2 := h.fr f2 (hq3 3 (by decide)) (hq3 4 (by decide)) (hq3 7 (by decide))
        rw [f_X8_spendFrom_L40]
        simp (disch := omega) only [rdI_n, h2.2.1 x (by omega), ge_self, if_true]
        refine K1 M2 ⟨f2, t2.congr rfl (fun y _ s _ => ?_)⟩
        by_cases c : y < cN P
        · rw [if_pos c, if_pos c, Nat.add_assoc]
          rfl
        · rw [if_neg c, if_neg c]
  · intro n M1 ⟨f1, t1⟩
    have h1 := h.fr f1 (hq3 3 (by decide)) (hq3 4 (by decide)) (hq3 7 (by decide))
    rw [f_X8_spendFrom_L3, bd_eq, h1.1]
    simp only [ge_self, if_true]
    rw [hQ]
    exact OK.ret ⟨f1, t1⟩
/-- the class's sums at a time -/
def HT (P : Nat → Int32) (W : Nat → Nat) (b st lim t x s : Nat) : Nat := if x < cN P ∧ s ≤ lim then MS (cN P) (cM P) W (fun r => cA P r b) (cP P) st t x s else 0
theorem HT_le {P : Nat → Int32} {W : Nat → Nat} (hV : VP P) (hK : WOK P W) {b st lim t x s : Nat} (ht : t ≤ 5) : HT P W b st lim t x s ≤ 10 ^ 15 := by
  have h := BT_le (b := b) (st := st) (t := t) (x := x) (s := s) hV hK ht
  unfold HT
  unfold BT at h
  by_cases c : x < cN P ∧ s ≤ lim
  · rw [if_pos c]
    rw [if_pos c.1] at h
    exact h
  · rw [if_neg c]
    exact Nat.zero_le _
theorem HT_step {P : Nat → Int32} {W : Nat → Nat} (hV : VP P) {b st lim mo t y s : Nat} (hmo : mo = min lim (t * 99)) : (if y < cN P then sm (mo + 1) (fun i => sm (cN P) (fun x => spa (cM P) W (fun r => cA P r b) (cP P) lim (HT P W b st lim t) i x (cM P x) y s)) else 0) = HT P W b st lim (t + 1) y s := by
  unfold HT
  by_cases c : y < cN P
  · rw [if_pos c, sm_swap]
    by_cases d : s ≤ lim
    · rw [if_pos ⟨c, d⟩]
      show _ = sm (cN P) _
      refine sm_congr (fun x hx => ?_)
      unfold spa
      rw [sm_swap]
      refine sm_congr (fun a _ => ?_)
      simp only [if_pos d]
      rw [sm_single (f := fun i => (if x < cN P ∧ i ≤ lim then MS (cN P) (cM P) W (fun r => cA P r b) (cP P) st t x i else 0) * W (x * 3 + a) * cP P (x * 3 + a) y)]
      by_cases e : cA P (x * 3 + a) b ≤ s
      · rw [if_pos e]
        by_cases g : s - cA P (x * 3 + a) b < mo + 1
        · rw [if_pos ⟨e, g⟩, if_pos ⟨hx, by omega⟩]
        · rw [if_neg (fun z => g z.2), MS_zero (fun r => hV.2.2.2.2.2.1 r b) t x _ (by omega), Nat.zero_mul, Nat.zero_mul]
      · rw [if_neg e, if_neg (fun z => e z.1)]
    · rw [if_neg (fun z => d z.2)]
      have e : ∀ x, x < cN P → sm (mo + 1) (fun i => spa (cM P) W (fun r => cA P r b) (cP P) lim (fun x s => if x < cN P ∧ s ≤ lim then MS (cN P) (cM P) W (fun r => cA P r b) (cP P) st t x s else 0) i x (cM P x) y s) = 0 := fun x _ => by
        rw [sm_congr (g := fun _ => 0) (fun i _ => ?_), sm_zero]
        unfold spa
        rw [sm_congr (g := fun _ => 0) (fun a _ => ?_), sm_zero]
        simp only [if_neg d]
        split <;> rfl
      rw [sm_congr (g := fun _ => 0) e, sm_zero]
  · rw [if_neg c, if_neg (fun z => c z.1)]
