/-! what the builder's row is behind it has grown, and behind bytes are put -/
theorem putT_210 {M : Mem} {j : Nat} {bs : List Nat} : gI (putT M j bs) 210 = gI M 210 := by
  funext k
  rfl
theorem vp_nar_dg : ∀ c, c < 128 → vp_nar .byte (nI c) = nI c ∧ fits .byte (.int (nI c)) = true ∧ (nI c).toInt8.toInt32 = nI c := by decide +kernel
theorem mem_ext {M M' : Mem} (h1 : ∀ o k, gI M o k = gI M' o k) (h2 : M.2 = M'.2) : M = M' := by
  obtain ⟨a, b⟩ := M
  obtain ⟨a', b'⟩ := M'
  have : a = a' := funext fun o => funext fun k => h1 o k
  subst this
  have h2 : b = b' := h2
  subst h2
  rfl
theorem putT_211 {M : Mem} {j k : Nat} {bs : List Nat} : gI (putT M j bs) 211 k = if j ≤ k ∧ k < j + bs.length then nI (bs.getD (k - j) 0) else gI M 211 k := rfl
theorem putT_ne {M : Mem} {j o k : Nat} {bs : List Nat} (h : o ≠ 211) : gI (putT M j bs) o k = gI M o k := by
  show (if o = 211 then _ else M.1 o k) = _
  rw [if_neg h]
  rfl
theorem sI_putT {M : Mem} {j : Nat} {bs : List Nat} {b : Nat} : sI (putT M (j + 1) bs) 211 j (nI b) = putT M j (b :: bs) := by
  refine mem_ext (fun o k => ?_) rfl
  rw [gI_sI]
  by_cases ho : o = 211
  · subst ho
    rw [putT_211, putT_211]
    by_cases hk : k = j
    · subst hk
      rw [if_pos ⟨rfl, rfl⟩, if_pos ⟨Nat.le_refl _, by simp⟩, Nat.sub_self]
      rfl
    · rw [if_neg (fun z => hk z.2)]
      by_cases h1 : j + 1 ≤ k ∧ k < j + 1 + bs.length
      · rw [if_pos h1, if_pos ⟨by omega, by simp only [List.length_cons]; omega⟩]
        obtain ⟨i, hi⟩ : ∃ i, k - j = i + 1 := ⟨k - j - 1, by omega⟩
        rw [hi, show k - (j + 1) = i by omega]
        rfl
      · rw [if_neg h1, if_neg (fun z => h1 ⟨by omega, by simp only [List.length_cons] at z; omega⟩)]
  · rw [if_neg (fun z => ho z.1), putT_ne ho, putT_ne ho]
theorem putT_nil {M : Mem} {j : Nat} : putT M j [] = M := by
  refine mem_ext (fun o k => ?_) rfl
  by_cases ho : o = 211
  · subst ho
    rw [putT_211, if_neg (fun z => absurd z.2 (by simp only [List.length_nil]; omega))]
  · rw [putT_ne ho]
theorem SBM.grow {M : Mem} {n m q : Nat} (h : SBM M n m) (hq : q ≤ 1100) : ∃ m', SBM (growM M q) n m' ∧ q ≤ m' := by
  obtain ⟨h1, h2, h3, h4, h5, h6, h7⟩ := h
  by_cases hqm : q ≤ m
  · refine ⟨m, ?_, hqm⟩
    rw [growM, h3, if_pos hqm]
    exact ⟨h1, h2, h3, h4, h5, h6, h7⟩
  · have hc : m < sbcap q m ∧ sbcap q m ≤ 2200 ∧ q ≤ sbcap q m := by unfold sbcap; omega
    refine ⟨sbcap q m, ?_, hc.2.2⟩
    rw [growM, h3, if_neg hqm]
    refine ⟨h1, h2, ?_, by omega, hc.2.1, fun k => ?_, fun k => rfl, fun k => rfl, h7.2.2⟩
    · show (lN (sbcap q m)).toInt.toNat = _
      rw [lN_toInt (by omega)]
      rfl
    · show fits .byte (.int (if k < vlen M 211 then gI M 211 k else gI M 300 k)) = true
      split
      · exact h6 k
      · rw [h7.1 k]
        decide
theorem growM_at {M : Mem} {n m q k : Nat} (h : SBM M n m) (hk : k < n) : gI (growM M q) 211 k = gI M 211 k := by
  obtain ⟨h1, h2, h3, h4, h5, h6, h7⟩ := h
  by_cases hqm : q ≤ m
  · rw [growM, h3, if_pos hqm]
  · rw [growM, h3, if_neg hqm]
    show (if k < vlen M 211 then gI M 211 k else gI M 300 k) = _
    rw [if_pos (by omega)]
theorem growM_ne {M : Mem} {q o k : Nat} (h1 : o ≠ 211) (h3 : o ≠ 300) : gI (growM M q) o k = gI M o k := by
  unfold growM
  split
  · rfl
  · show (if o = 211 then _ else if o = 300 then _ else (if o = 300 then _ else M.1 o k)) = _
    rw [if_neg h1, if_neg h3, if_neg h3]
    rfl
theorem growM_nL {M : Mem} {q o k : Nat} (h1 : o ≠ 211) (h3 : o ≠ 300) : gL (growM M q) o k = gL M o k := by
  unfold growM
  split
  · rfl
  · show (if o = 211 then _ else if o = 300 then _ else (if o = 300 ∧ k = 0 then _ else M.2.1 o k)) = _
    rw [if_neg h1, if_neg h3, if_neg (fun z => h3 z.1)]
    rfl
theorem growM_R {M : Mem} {q o k : Nat} : gR (growM M q) o k = gR M o k := by
  unfold growM
  split <;> rfl
theorem SBM.put {M : Mem} {n m j : Nat} {bs : List Nat} (h : SBM M n m) (hb : ∀ b ∈ bs, b < 128) : SBM (putT M j bs) n m := by
  obtain ⟨h1, h2, h3, h4, h5, h6, h7⟩ := h
  refine ⟨h1, h2, h3, h4, h5, fun k => ?_, fun k => h7.1 k, h7.2.1, h7.2.2⟩
  rw [putT_211]
  split
  · rename_i hk
    have hl : k - j < bs.length := by omega
    rw [List.getD_eq_getElem?_getD, List.getElem?_eq_getElem hl, Option.getD_some]
    exact (vp_nar_dg _ (hb _ (List.getElem_mem hl))).2.1
  · exact h6 k
/-- bytes put at the end -/
def apM (M : Mem) (bs : List Nat) : Mem := sI (putT (growM M ((gI M 210 3).toNatClampNeg + bs.length)) (gI M 210 3).toNatClampNeg bs) 210 3 (nI ((gI M 210 3).toNatClampNeg + bs.length))
theorem SBM.cnt {M : Mem} {n m : Nat} (h : SBM M n m) : (gI M 210 3).toNatClampNeg = n := by
  rw [h.1, nI_clamp (by have := h.2.2.2.1; have := h.2.2.2.2.1; omega)]
theorem apM_eq {M : Mem} {n m : Nat} (h : SBM M n m) (bs : List Nat) : apM M bs = sI (putT (growM M (n + bs.length)) n bs) 210 3 (nI (n + bs.length)) := by rw [apM, h.cnt]
theorem SBM.app {M : Mem} {n m : Nat} {bs : List Nat} (h : SBM M n m) (hb : ∀ b ∈ bs, b < 128) (hn : n + bs.length ≤ 1100) : ∃ m', SBM (apM M bs) (n + bs.length) m' := by
  obtain ⟨m', h1, h2⟩ := h.grow hn
  obtain ⟨g1, g2, g3, g4, g5, g6, g7⟩ := h1.put (j := n) hb
  refine ⟨m', ?_⟩
  rw [apM_eq h]
  exact ⟨rfl, g2, g3, h2, g5, g6, g7⟩
theorem wl_b : ∀ t, t < 21 → ∀ b ∈ WL.getD t [], b < 128 := by decide
/-- digits -/
def dgs (v : Nat) : List Nat := if v < 10 then [48 + v] else if v < 100 then [48 + v / 10, 48 + v % 10] else if v < 1000 then [48 + v / 100, 48 + v / 10 % 10, 48 + v % 10] else if v < 10000 then [48 + v / 1000, 48 + v / 100 % 10, 48 + v / 10 % 10, 48 + v % 10] else [48 + v / 10000, 48 + v / 1000 % 10, 48 + v / 100 % 10, 48 + v / 10 % 10, 48 + v % 10]
theorem dgs_b {v : Nat} (h : v < 100000) : ∀ b ∈ dgs v, b < 128 := by
  unfold dgs
  intro b hb
  repeat' split at hb
  all_goals (simp only [List.mem_cons, List.not_mem_nil, or_false] at hb; omega)
theorem dgs_len {v : Nat} : (dgs v).length ≤ 5 ∧ 0 < (dgs v).length := by
  unfold dgs
  repeat' split
  all_goals exact ⟨Nat.le_of_ble_eq_true rfl, Nat.le_of_ble_eq_true rfl⟩
theorem ng_toInt {v : Nat} (hv : v < 2 ^ 30) : (-(nI v)).toInt = -(v : Int) := by
  have h : -(nI v) = nI 0 - nI v := (Int32.zero_sub _).symm
  rw [h, pk_sub_toInt (by omega) hv]
  omega
theorem ng_le {v c : Nat} (hv : v < 2 ^ 30) (hc : c < 2 ^ 30) : -(nI v) ≤ -(nI c) ↔ c ≤ v := by
  rw [Int32.le_iff_toInt_le, ng_toInt hv, ng_toInt hc]
  omega
theorem ng_lt {v c : Nat} (hv : v < 2 ^ 30) (hc : c < 2 ^ 30) : -(nI v) < -(nI c) ↔ c < v := by
  rw [Int32.lt_iff_toInt_lt, ng_toInt hv, ng_toInt hc]
  omega
theorem ng_div {v : Nat} (hv : v < 100000) : -(nI v) / (100 : Int32) = -(nI (v / 100)) := by
  apply Int32.toInt_inj.mp
  rw [ng_toInt (by omega), Int32.toInt_div, ng_toInt (by omega), show (100 : Int32).toInt = 100 from rfl, Int.neg_tdiv, show ((v : Int).tdiv 100) = ((v / 100 : Nat) : Int) by rw [Int.tdiv_eq_ediv_of_nonneg (by omega)]; omega]
  apply Int.bmod_eq_of_le <;> omega
theorem ng_rem {v : Nat} : -(nI (v / 100)) * (100 : Int32) - -(nI v) = nI (v % 100) := by
  rw [Int32.sub_eq_add_neg, Int32.neg_neg, Int32.neg_mul, Int32.add_comm, ← Int32.sub_eq_add_neg]
  rw [show (100 : Int32) = nI 100 from rfl, pk_mul, pk_sub (by omega)]
  congr 1
  omega
theorem inB_nI {j n : Nat} (h : j < n) (hn : n < 2 ^ 31) : inB (nI j) n = true := by
  simp only [inB, Bool.and_eq_true, decide_eq_true_eq]
  exact ⟨nI_pos' (by omega), by rw [nI_clamp (by omega)]; exact h⟩
section Dg
variable {Γ : WC} {X : MX} {M : Mem} {cs sl : Nat} {L : List (Option Value)} {st : List Value} {pc : Nat} {cc : ByteArray} {nL : Nat} {own : String} {ret : Option FieldType} {R0 : Room} {idx : Nat}
theorem x_gsO (C : CX Γ X cc nL own ret R0) (hN : HT Γ) (lk : Gd (.fieldLink own idx "java/lang/Integer" "DigitOnes" "[B")) (d : decode cc pc = .ok (.getstatic idx, 3)) (q : Nat) (hq : pc + 3 = q) (K : G Γ X M cs sl L (.ref (wst Γ 50) :: st) q) : G Γ X M cs sl L st pc := by
  subst hq
  obtain ⟨p, e, R, s, m, args, below, meth, c, Q⟩ := X
  obtain ⟨hx, hb, hml, hown, hts, hW, hlk, hret, rfl, hK, hSs, hG⟩ := C
  intro H locs ls a1 a2 a3 a4 a5 T hT X9
  exact va_gets hx hb ((hN.2.2.2.2.2.1.1.kept hSs.2.1).moved hW.alike) (ss9 X9 hT a4 hSs) hown (hts _ lk) (fun _ h => h) d (K H locs ls a1 a2 a3 a4 a5) T hT X9
theorem x_gsT (C : CX Γ X cc nL own ret R0) (hN : HT Γ) (lk : Gd (.fieldLink own idx "java/lang/Integer" "DigitTens" "[B")) (d : decode cc pc = .ok (.getstatic idx, 3)) (q : Nat) (hq : pc + 3 = q) (K : G Γ X M cs sl L (.ref (wst Γ 51) :: st) q) : G Γ X M cs sl L st pc := by
  subst hq
  obtain ⟨p, e, R, s, m, args, below, meth, c, Q⟩ := X
  obtain ⟨hx, hb, hml, hown, hts, hW, hlk, hret, rfl, hK, hSs, hG⟩ := C
  intro H locs ls a1 a2 a3 a4 a5 T hT X9
  exact va_gets hx hb ((hN.2.2.2.2.2.2.1.kept hSs.2.1).moved hW.alike) (ss9 X9 hT a4 hSs) hown (hts _ lk) (fun _ h => h) d (K H locs ls a1 a2 a3 a4 a5) T hT X9
theorem x_balO (C : CX Γ X cc nL own ret R0) (hN : HT Γ) {j : Nat} (hj : j < 100) (d : decode cc pc = .ok (.baload, 1)) (q : Nat) (hq : pc + 1 = q) (K : G Γ X M cs sl L (.int (nI (48 + j % 10)) :: st) q) : G Γ X M cs sl L (.int (nI j) :: .ref (wst Γ 50) :: st) pc := by
  subst hq
  obtain ⟨p, e, R, s, m, args, below, meth, c, Q⟩ := X
  obtain ⟨hx, hb, hml, hown, hts, hW, hlk, hret, rfl, hK, hSs, hG⟩ := C
  intro H locs ls a1 a2 a3 a4 a5 T hT X9
  exact va_tb hx hb ((hN.2.2.2.2.2.1.2.kept hSs.2.1).moved hW.alike) (ss9 X9 hT a4 hSs) (inB_in (inB_nI hj (by decide))) (by rw [nI_clamp (by omega)]) d (K H locs ls a1 a2 a3 a4 a5) T hT X9
theorem x_balT (C : CX Γ X cc nL own ret R0) (hN : HT Γ) {j : Nat} (hj : j < 100) (d : decode cc pc = .ok (.baload, 1)) (q : Nat) (hq : pc + 1 = q) (K : G Γ X M cs sl L (.int (nI (48 + j / 10)) :: st) q) : G Γ X M cs sl L (.int (nI j) :: .ref (wst Γ 51) :: st) pc := by
  subst hq
  obtain ⟨p, e, R, s, m, args, below, meth, c, Q⟩ := X
  obtain ⟨hx, hb, hml, hown, hts, hW, hlk, hret, rfl, hK, hSs, hG⟩ := C
  intro H locs ls a1 a2 a3 a4 a5 T hT X9
  exact va_tb hx hb ((hN.2.2.2.2.2.2.2.kept hSs.2.1).moved hW.alike) (ss9 X9 hT a4 hSs) (inB_in (inB_nI hj (by decide))) (by rw [nI_clamp (by omega)]) d (K H locs ls a1 a2 a3 a4 a5) T hT X9
theorem x_idivv (C : CX Γ X cc nL own ret R0) {x y : Int32} (hy : nzI y (some ()) = some ()) (d : decode cc pc = .ok (.idiv, 1)) (q : Nat) (hq : pc + 1 = q) (K : G Γ X M cs sl L (.int (x / y) :: st) q) : G Γ X M cs sl L (.int y :: .int x :: st) pc := x_idiv C d q hq hy (fun _ => K)
end Dg
theorem cb_stringSize {Γ : WC} (hG : HG Γ) {M : Mem} {v : Nat} (hv : v < 100000) : Ct Γ yJ6_stringSize_0f7a4 cJ6_stringSize_0f7a4 4 (some .int) (rmL 0 0 0) [.int (nI v)] M (some (.int (nI (dgs v).length))) M := by
  refine mkN hG (own := RJ6) rfl (by decide) (Nat.le_of_ble_eq_true rfl) (fun X C E => ?_)
  change G Γ X M 0 0 [some (.int (nI v))] [] 0
  refine x_iconst C (v := (1 : Int32)) (by decide) (dkAt dk_J6_stringSize_0f7a4 0 rfl) 1 rfl ?_
  refine x_istore_n C (L1 := [some (.int (nI v)), some (.int (1 : Int32))]) (dkAt dk_J6_stringSize_0f7a4 1 rfl) 2 rfl rfl (by decide) rfl ?_
  refine x_iload_n C rfl rfl (dkAt dk_J6_stringSize_0f7a4 2 rfl) 3 rfl ?_
  refine xiF_lt C (nI_pos (by omega)) 11 (dkAt dk_J6_stringSize_0f7a4 3 rfl) (by decide) 6 rfl ?_
  refine x_iconst C (v := (0 : Int32)) (by decide) (dkAt dk_J6_stringSize_0f7a4 4 rfl) 7 rfl ?_
  refine x_istore_n C (L1 := [some (.int (nI v)), some (.int (0 : Int32))]) (dkAt dk_J6_stringSize_0f7a4 5 rfl) 8 rfl rfl (by decide) rfl ?_
  refine x_iload_n C rfl rfl (dkAt dk_J6_stringSize_0f7a4 6 rfl) 9 rfl ?_
  refine x_ineg C (dkAt dk_J6_stringSize_0f7a4 7 rfl) 10 rfl ?_
  refine x_istore_n C (L1 := [some (.int (-(nI v))), some (.int (0 : Int32))]) (dkAt dk_J6_stringSize_0f7a4 8 rfl) 11 rfl rfl (by decide) rfl ?_
  refine x_bipush C (v := (-10 : Int32)) (by decide) (dkAt dk_J6_stringSize_0f7a4 9 rfl) 13 rfl ?_
  refine x_istore_n C (L1 := [some (.int (-(nI v))), some (.int (0 : Int32)), some (.int (-10 : Int32))]) (dkAt dk_J6_stringSize_0f7a4 10 rfl) 14 rfl rfl (by decide) rfl ?_
  refine x_iconst C (v := (1 : Int32)) (by decide) (dkAt dk_J6_stringSize_0f7a4 11 rfl) 15 rfl ?_
  refine x_istore_n C (L1 := [some (.int (-(nI v))), some (.int (0 : Int32)), some (.int (-10 : Int32)), some (.int (1 : Int32))]) (dkAt dk_J6_stringSize_0f7a4 12 rfl) 16 rfl rfl (by decide) rfl ?_
  refine x_iload_n C rfl rfl (dkAt dk_J6_stringSize_0f7a4 13 rfl) 17 rfl ?_
  refine x_bipush C (v := (10 : Int32)) (by decide) (dkAt dk_J6_stringSize_0f7a4 14 rfl) 19 rfl ?_
  refine xcF_ge C (by decide) 42 (dkAt dk_J6_stringSize_0f7a4 15 rfl) (by decide) 22 rfl ?_
  refine x_iload_n C rfl rfl (dkAt dk_J6_stringSize_0f7a4 16 rfl) 23 rfl ?_
  refine x_iload_n C rfl rfl (dkAt dk_J6_stringSize_0f7a4 17 rfl) 24 rfl ?_
  by_cases h1 : v < 10
  · refine xcF_le C (fun z => absurd ((ng_le (c := 10) (by omega) (by omega)).mp z) (by omega)) 31 (dkAt dk_J6_stringSize_0f7a4 18 rfl) (by decide) 27 rfl ?_
    refine x_iload_n C rfl rfl (dkAt dk_J6_stringSize_0f7a4 19 rfl) 28 rfl ?_
    refine x_iload_n C rfl rfl (dkAt dk_J6_stringSize_0f7a4 20 rfl) 29 rfl ?_
    refine x_iadd C (dkAt dk_J6_stringSize_0f7a4 21 rfl) 30 rfl ?_
    rw [show (dgs v).length = 1 by rw [dgs, if_pos h1]; rfl] at E
    exact x_nret (rM := (0, M)) C E rfl (Nat.le_refl _) (Nat.le_refl _) (dkAt dk_J6_stringSize_0f7a4 22 rfl)
  · refine xcT_le C ((ng_le (c := 10) (by omega) (by omega)).mpr (by omega)) 31 (dkAt dk_J6_stringSize_0f7a4 18 rfl) (by decide) ?_
    refine x_bipush C (v := (10 : Int32)) (by decide) (dkAt dk_J6_stringSize_0f7a4 23 rfl) 33 rfl ?_
    refine x_iload_n C rfl rfl (dkAt dk_J6_stringSize_0f7a4 24 rfl) 34 rfl ?_
    refine x_imul C (dkAt dk_J6_stringSize_0f7a4 25 rfl) 35 rfl ?_
    rw [show ((10 : Int32) * (-10 : Int32)) = (-100 : Int32) from by decide]
    refine x_istore_n C (L1 := [some (.int (-(nI v))), some (.int (0 : Int32)), some (.int (-100 : Int32)), some (.int (1 : Int32))]) (dkAt dk_J6_stringSize_0f7a4 26 rfl) 36 rfl rfl (by decide) rfl ?_
    refine x_iinc C (v := ((1 : Int32) + (1 : Int32))) (L1 := [some (.int (-(nI v))), some (.int (0 : Int32)), some (.int (-100 : Int32)), some (.int ((1 : Int32) + (1 : Int32)))]) (dkAt dk_J6_stringSize_0f7a4 27 rfl) 39 rfl rfl rfl (by decide) rfl ?_
    rw [show ((1 : Int32) + (1 : Int32)) = (2 : Int32) by decide]
    refine x_goto C 16 (dkAt dk_J6_stringSize_0f7a4 28 rfl) (by decide) ?_
    refine x_iload_n C rfl rfl (dkAt dk_J6_stringSize_0f7a4 13 rfl) 17 rfl ?_
    refine x_bipush C (v := (10 : Int32)) (by decide) (dkAt dk_J6_stringSize_0f7a4 14 rfl) 19 rfl ?_
    refine xcF_ge C (by decide) 42 (dkAt dk_J6_stringSize_0f7a4 15 rfl) (by decide) 22 rfl ?_
    refine x_iload_n C rfl rfl (dkAt dk_J6_stringSize_0f7a4 16 rfl) 23 rfl ?_
    refine x_iload_n C rfl rfl (dkAt dk_J6_stringSize_0f7a4 17 rfl) 24 rfl ?_
    by_cases h2 : v < 100
    · refine xcF_le C (fun z => absurd ((ng_le (c := 100) (by omega) (by omega)).mp z) (by omega)) 31 (dkAt dk_J6_stringSize_0f7a4 18 rfl) (by decide) 27 rfl ?_
      refine x_iload_n C rfl rfl (dkAt dk_J6_stringSize_0f7a4 19 rfl) 28 rfl ?_
      refine x_iload_n C rfl rfl (dkAt dk_J6_stringSize_0f7a4 20 rfl) 29 rfl ?_
      refine x_iadd C (dkAt dk_J6_stringSize_0f7a4 21 rfl) 30 rfl ?_
      rw [show (dgs v).length = 2 by rw [dgs, if_neg h1, if_pos h2]; rfl] at E
      exact x_nret (rM := (0, M)) C E rfl (Nat.le_refl _) (Nat.le_refl _) (dkAt dk_J6_stringSize_0f7a4 22 rfl)
    · refine xcT_le C ((ng_le (c := 100) (by omega) (by omega)).mpr (by omega)) 31 (dkAt dk_J6_stringSize_0f7a4 18 rfl) (by decide) ?_
      refine x_bipush C (v := (10 : Int32)) (by decide) (dkAt dk_J6_stringSize_0f7a4 23 rfl) 33 rfl ?_
      refine x_iload_n C rfl rfl (dkAt dk_J6_stringSize_0f7a4 24 rfl) 34 rfl ?_
      refine x_imul C (dkAt dk_J6_stringSize_0f7a4 25 rfl) 35 rfl ?_
      rw [show ((10 : Int32) * (-100 : Int32)) = (-1000 : Int32) from by decide]
      refine x_istore_n C (L1 := [some (.int (-(nI v))), some (.int (0 : Int32)), some (.int (-1000 : Int32)), some (.int (2 : Int32))]) (dkAt dk_J6_stringSize_0f7a4 26 rfl) 36 rfl rfl (by decide) rfl ?_
      refine x_iinc C (v := ((2 : Int32) + (1 : Int32))) (L1 := [some (.int (-(nI v))), some (.int (0 : Int32)), some (.int (-1000 : Int32)), some (.int ((2 : Int32) + (1 : Int32)))]) (dkAt dk_J6_stringSize_0f7a4 27 rfl) 39 rfl rfl rfl (by decide) rfl ?_
      rw [show ((2 : Int32) + (1 : Int32)) = (3 : Int32) by decide]
      refine x_goto C 16 (dkAt dk_J6_stringSize_0f7a4 28 rfl) (by decide) ?_
      refine x_iload_n C rfl rfl (dkAt dk_J6_stringSize_0f7a4 13 rfl) 17 rfl ?_
      refine x_bipush C (v := (10 : Int32)) (by decide) (dkAt dk_J6_stringSize_0f7a4 14 rfl) 19 rfl ?_
      refine xcF_ge C (by decide) 42 (dkAt dk_J6_stringSize_0f7a4 15 rfl) (by decide) 22 rfl ?_
      refine x_iload_n C rfl rfl (dkAt dk_J6_stringSize_0f7a4 16 rfl) 23 rfl ?_
      refine x_iload_n C rfl rfl (dkAt dk_J6_stringSize_0f7a4 17 rfl) 24 rfl ?_
      by_cases h3 : v < 1000
      · refine xcF_le C (fun z => absurd ((ng_le (c := 1000) (by omega) (by omega)).mp z) (by omega)) 31 (dkAt dk_J6_stringSize_0f7a4 18 rfl) (by decide) 27 rfl ?_
        refine x_iload_n C rfl rfl (dkAt dk_J6_stringSize_0f7a4 19 rfl) 28 rfl ?_
        refine x_iload_n C rfl rfl (dkAt dk_J6_stringSize_0f7a4 20 rfl) 29 rfl ?_
        refine x_iadd C (dkAt dk_J6_stringSize_0f7a4 21 rfl) 30 rfl ?_
        rw [show (dgs v).length = 3 by rw [dgs, if_neg h1, if_neg h2, if_pos h3]; rfl] at E
        exact x_nret (rM := (0, M)) C E rfl (Nat.le_refl _) (Nat.le_refl _) (dkAt dk_J6_stringSize_0f7a4 22 rfl)
      · refine xcT_le C ((ng_le (c := 1000) (by omega) (by omega)).mpr (by omega)) 31 (dkAt dk_J6_stringSize_0f7a4 18 rfl) (by decide) ?_
        refine x_bipush C (v := (10 : Int32)) (by decide) (dkAt dk_J6_stringSize_0f7a4 23 rfl) 33 rfl ?_
        refine x_iload_n C rfl rfl (dkAt dk_J6_stringSize_0f7a4 24 rfl) 34 rfl ?_
        refine x_imul C (dkAt dk_J6_stringSize_0f7a4 25 rfl) 35 rfl ?_
        rw [show ((10 : Int32) * (-1000 : Int32)) = (-10000 : Int32) from by decide]
        refine x_istore_n C (L1 := [some (.int (-(nI v))), some (.int (0 : Int32)), some (.int (-10000 : Int32)), some (.int (3 : Int32))]) (dkAt dk_J6_stringSize_0f7a4 26 rfl) 36 rfl rfl (by decide) rfl ?_
        refine x_iinc C (v := ((3 : Int32) + (1 : Int32))) (L1 := [some (.int (-(nI v))), some (.int (0 : Int32)), some (.int (-10000 : Int32)), some (.int ((3 : Int32) + (1 : Int32)))]) (dkAt dk_J6_stringSize_0f7a4 27 rfl) 39 rfl rfl rfl (by decide) rfl ?_
        rw [show ((3 : Int32) + (1 : Int32)) = (4 : Int32) by decide]
        refine x_goto C 16 (dkAt dk_J6_stringSize_0f7a4 28 rfl) (by decide) ?_
        refine x_iload_n C rfl rfl (dkAt dk_J6_stringSize_0f7a4 13 rfl) 17 rfl ?_
        refine x_bipush C (v := (10 : Int32)) (by decide) (dkAt dk_J6_stringSize_0f7a4 14 rfl) 19 rfl ?_
        refine xcF_ge C (by decide) 42 (dkAt dk_J6_stringSize_0f7a4 15 rfl) (by decide) 22 rfl ?_
        refine x_iload_n C rfl rfl (dkAt dk_J6_stringSize_0f7a4 16 rfl) 23 rfl ?_
        refine x_iload_n C rfl rfl (dkAt dk_J6_stringSize_0f7a4 17 rfl) 24 rfl ?_
        by_cases h4 : v < 10000
        · refine xcF_le C (fun z => absurd ((ng_le (c := 10000) (by omega) (by omega)).mp z) (by omega)) 31 (dkAt dk_J6_stringSize_0f7a4 18 rfl) (by decide) 27 rfl ?_
          refine x_iload_n C rfl rfl (dkAt dk_J6_stringSize_0f7a4 19 rfl) 28 rfl ?_
          refine x_iload_n C rfl rfl (dkAt dk_J6_stringSize_0f7a4 20 rfl) 29 rfl ?_
          refine x_iadd C (dkAt dk_J6_stringSize_0f7a4 21 rfl) 30 rfl ?_
          rw [show (dgs v).length = 4 by rw [dgs, if_neg h1, if_neg h2, if_neg h3, if_pos h4]; rfl] at E
          exact x_nret (rM := (0, M)) C E rfl (Nat.le_refl _) (Nat.le_refl _) (dkAt dk_J6_stringSize_0f7a4 22 rfl)
        · refine xcT_le C ((ng_le (c := 10000) (by omega) (by omega)).mpr (by omega)) 31 (dkAt dk_J6_stringSize_0f7a4 18 rfl) (by decide) ?_
          refine x_bipush C (v := (10 : Int32)) (by decide) (dkAt dk_J6_stringSize_0f7a4 23 rfl) 33 rfl ?_
          refine x_iload_n C rfl rfl (dkAt dk_J6_stringSize_0f7a4 24 rfl) 34 rfl ?_
          refine x_imul C (dkAt dk_J6_stringSize_0f7a4 25 rfl) 35 rfl ?_
          rw [show ((10 : Int32) * (-10000 : Int32)) = (-100000 : Int32) from by decide]
          refine x_istore_n C (L1 := [some (.int (-(nI v))), some (.int (0 : Int32)), some (.int (-100000 : Int32)), some (.int (4 : Int32))]) (dkAt dk_J6_stringSize_0f7a4 26 rfl) 36 rfl rfl (by decide) rfl ?_
          refine x_iinc C (v := ((4 : Int32) + (1 : Int32))) (L1 := [some (.int (-(nI v))), some (.int (0 : Int32)), some (.int (-100000 : Int32)), some (.int ((4 : Int32) + (1 : Int32)))]) (dkAt dk_J6_stringSize_0f7a4 27 rfl) 39 rfl rfl rfl (by decide) rfl ?_
          rw [show ((4 : Int32) + (1 : Int32)) = (5 : Int32) by decide]
          refine x_goto C 16 (dkAt dk_J6_stringSize_0f7a4 28 rfl) (by decide) ?_
          refine x_iload_n C rfl rfl (dkAt dk_J6_stringSize_0f7a4 13 rfl) 17 rfl ?_
          refine x_bipush C (v := (10 : Int32)) (by decide) (dkAt dk_J6_stringSize_0f7a4 14 rfl) 19 rfl ?_
          refine xcF_ge C (by decide) 42 (dkAt dk_J6_stringSize_0f7a4 15 rfl) (by decide) 22 rfl ?_
          refine x_iload_n C rfl rfl (dkAt dk_J6_stringSize_0f7a4 16 rfl) 23 rfl ?_
          refine x_iload_n C rfl rfl (dkAt dk_J6_stringSize_0f7a4 17 rfl) 24 rfl ?_
          refine xcF_le C (fun z => absurd ((ng_le (c := 100000) (by omega) (by omega)).mp z) (by omega)) 31 (dkAt dk_J6_stringSize_0f7a4 18 rfl) (by decide) 27 rfl ?_
          refine x_iload_n C rfl rfl (dkAt dk_J6_stringSize_0f7a4 19 rfl) 28 rfl ?_
          refine x_iload_n C rfl rfl (dkAt dk_J6_stringSize_0f7a4 20 rfl) 29 rfl ?_
          refine x_iadd C (dkAt dk_J6_stringSize_0f7a4 21 rfl) 30 rfl ?_
          rw [show (dgs v).length = 5 by rw [dgs, if_neg h1, if_neg h2, if_neg h3, if_neg h4]; rfl] at E
          exact x_nret (rM := (0, M)) C E rfl (Nat.le_refl _) (Nat.le_refl _) (dkAt dk_J6_stringSize_0f7a4 22 rfl)
