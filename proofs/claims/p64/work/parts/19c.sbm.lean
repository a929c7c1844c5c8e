theorem gc_step {Γ : WC} (hN : HB Γ) {X : MX} {R0 : Room} {M : Mem} {cs sl w p p0 : Nat} {a3 a4 : Option Value} (C : CX Γ X cJ6_getChars_ba4f3 7 RJ6 (some .int) R0) (hw : 100 ≤ w ∧ w < 100000) (hp : p + 2 ≤ vlen M 211 ∧ p < 10000) (hp2 : vlen M 211 < 10000) (K : ∀ b3 b4, G Γ X (sI (sI M 211 (p + 1) (nI (48 + w % 10))) 211 p (nI (48 + w / 10 % 10))) cs sl [some (.int (-(nI (w / 100)))), some (.int (nI p0)), some (.ref (wad Γ 211)), b3, b4, some (.int (nI p)), some (.int (0 : Int32))] [] 22) : G Γ X M cs sl [some (.int (-(nI w))), some (.int (nI p0)), some (.ref (wad Γ 211)), a3, a4, some (.int (nI (p + 2))), some (.int (0 : Int32))] [] 22 := by
  refine x_iload_n C rfl rfl (dkAt dk_J6_getChars_ba4f3 13 rfl) 23 rfl ?_
  refine x_bipush C (v := (-100 : Int32)) (by decide) (dkAt dk_J6_getChars_ba4f3 14 rfl) 25 rfl ?_
  refine xcF_gt C (fun z => absurd ((ng_lt (by omega) (by omega)).mp (show -(nI 100) < -(nI w) from z)) (by omega)) 72 (dkAt dk_J6_getChars_ba4f3 15 rfl) (by decide) 28 rfl ?_
  refine x_iload_n C rfl rfl (dkAt dk_J6_getChars_ba4f3 16 rfl) 29 rfl ?_
  refine x_bipush C (v := (100 : Int32)) (by decide) (dkAt dk_J6_getChars_ba4f3 17 rfl) 31 rfl ?_
  refine x_idivv C (by decide) (dkAt dk_J6_getChars_ba4f3 18 rfl) 32 rfl ?_
  rw [show (-(nI w) / (100 : Int32)) = (-(nI (w / 100))) from ng_div hw.2]
  refine x_istore_n C (L1 := [some (.int (-(nI w))), some (.int (nI p0)), some (.ref (wad Γ 211)), some (.int (-(nI (w / 100)))), a4, some (.int (nI (p + 2))), some (.int (0 : Int32))]) (dkAt dk_J6_getChars_ba4f3 19 rfl) 33 rfl rfl (by decide) rfl ?_
  refine x_iload_n C rfl rfl (dkAt dk_J6_getChars_ba4f3 20 rfl) 34 rfl ?_
  refine x_bipush C (v := (100 : Int32)) (by decide) (dkAt dk_J6_getChars_ba4f3 21 rfl) 36 rfl ?_
  refine x_imul C (dkAt dk_J6_getChars_ba4f3 22 rfl) 37 rfl ?_
  refine x_iload_n C rfl rfl (dkAt dk_J6_getChars_ba4f3 23 rfl) 38 rfl ?_
  refine x_isub C (dkAt dk_J6_getChars_ba4f3 24 rfl) 39 rfl ?_
  rw [show (((-(nI (w / 100))) * (100 : Int32)) - (-(nI w))) = (nI (w % 100)) from ng_rem]
  refine x_istore C (L1 := [some (.int (-(nI w))), some (.int (nI p0)), some (.ref (wad Γ 211)), some (.int (-(nI (w / 100)))), some (.int (nI (w % 100))), some (.int (nI (p + 2))), some (.int (0 : Int32))]) (dkAt dk_J6_getChars_ba4f3 25 rfl) 41 rfl (by decide) rfl ?_
  refine x_iload_n C rfl rfl (dkAt dk_J6_getChars_ba4f3 26 rfl) 42 rfl ?_
  refine x_istore_n C (L1 := [some (.int (-(nI (w / 100)))), some (.int (nI p0)), some (.ref (wad Γ 211)), some (.int (-(nI (w / 100)))), some (.int (nI (w % 100))), some (.int (nI (p + 2))), some (.int (0 : Int32))]) (dkAt dk_J6_getChars_ba4f3 27 rfl) 43 rfl rfl (by decide) rfl ?_
  refine x_aload_n C rfl rfl (dkAt dk_J6_getChars_ba4f3 28 rfl) 44 rfl ?_
  refine x_iinc C (v := ((nI (p + 2)) + (-1 : Int32))) (L1 := [some (.int (-(nI (w / 100)))), some (.int (nI p0)), some (.ref (wad Γ 211)), some (.int (-(nI (w / 100)))), some (.int (nI (w % 100))), some (.int ((nI (p + 2)) + (-1 : Int32))), some (.int (0 : Int32))]) (dkAt dk_J6_getChars_ba4f3 29 rfl) 47 rfl rfl rfl (by decide) rfl ?_
  rw [show nI (p + 2) + (-1 : Int32) = nI (p + 1) from pk_m1 (p + 1)]
  refine x_iload C rfl (dkAt dk_J6_getChars_ba4f3 30 rfl) 49 rfl ?_
  refine x_gsO C hN.1 fl_RJ6_83 (dkAt dk_J6_getChars_ba4f3 31 rfl) 52 rfl ?_
  refine x_iload C rfl (dkAt dk_J6_getChars_ba4f3 32 rfl) 54 rfl ?_
  refine x_balO C hN.1 (by omega) (dkAt dk_J6_getChars_ba4f3 33 rfl) 55 rfl ?_
  rw [show (nI (48 + w % 100 % 10)) = (nI (48 + w % 10)) from (by congr 2; omega)]
  refine x_bastV C (n := 0) hN.2.2.1 (inB_nI (by omega) (by omega)) (dkAt dk_J6_getChars_ba4f3 34 rfl) 56 rfl ?_
  rw [show (nI (p + 1)).toNatClampNeg = (p + 1) from nI_clamp (by omega), show vp_nar .byte (nI (48 + w % 10)) = nI (48 + w % 10) from (vp_nar_dg _ (by omega)).1]
  refine x_aload_n C rfl rfl (dkAt dk_J6_getChars_ba4f3 35 rfl) 57 rfl ?_
  refine x_iinc C (v := ((nI (p + 1)) + (-1 : Int32))) (L1 := [some (.int (-(nI (w / 100)))), some (.int (nI p0)), some (.ref (wad Γ 211)), some (.int (-(nI (w / 100)))), some (.int (nI (w % 100))), some (.int ((nI (p + 1)) + (-1 : Int32))), some (.int (0 : Int32))]) (dkAt dk_J6_getChars_ba4f3 36 rfl) 60 rfl rfl rfl (by decide) rfl ?_
  rw [show nI (p + 1) + (-1 : Int32) = nI p from pk_m1 p]
  refine x_iload C rfl (dkAt dk_J6_getChars_ba4f3 37 rfl) 62 rfl ?_
  refine x_gsT C hN.1 fl_RJ6_87 (dkAt dk_J6_getChars_ba4f3 38 rfl) 65 rfl ?_
  refine x_iload C rfl (dkAt dk_J6_getChars_ba4f3 39 rfl) 67 rfl ?_
  refine x_balT C hN.1 (by omega) (dkAt dk_J6_getChars_ba4f3 40 rfl) 68 rfl ?_
  rw [show (nI (48 + w % 100 / 10)) = (nI (48 + w / 10 % 10)) from (by congr 2; omega)]
  refine x_bastV C (n := 0) hN.2.2.1 (inB_nI (by show p < vlen M 211; omega) (by show vlen M 211 < 2 ^ 31; omega)) (dkAt dk_J6_getChars_ba4f3 41 rfl) 69 rfl ?_
  rw [show (nI p).toNatClampNeg = p from nI_clamp (by omega), show vp_nar .byte (nI (48 + w / 10 % 10)) = nI (48 + w / 10 % 10) from (vp_nar_dg _ (by omega)).1]
  refine x_goto C 22 (dkAt dk_J6_getChars_ba4f3 42 rfl) (by decide) ?_
  exact K _ _
theorem gc_end1 {Γ : WC} (hN : HB Γ) {X : MX} {R0 : Room} {M : Mem} {cs sl w p p0 : Nat} {a3 a4 : Option Value} (C : CX Γ X cJ6_getChars_ba4f3 7 RJ6 (some .int) R0) (hw : w < 10) (hp : p + 1 ≤ vlen M 211 ∧ p < 10000) (hp2 : vlen M 211 < 10000) (K : ∀ L, G Γ X (sI M 211 p (nI (48 + w))) cs sl L [.int (nI p)] 120) : G Γ X M cs sl [some (.int (-(nI w))), some (.int (nI p0)), some (.ref (wad Γ 211)), a3, a4, some (.int (nI (p + 1))), some (.int (0 : Int32))] [] 22 := by
  refine G.weak (L := [some (.int (-(nI w))), some (.int (nI p0)), some (.ref (wad Γ 211)), none, none, some (.int (nI (p + 1))), some (.int (0 : Int32))]) (by cases a3 <;> cases a4 <;> simp [LSub]) ?_
  refine x_iload_n C rfl rfl (dkAt dk_J6_getChars_ba4f3 13 rfl) 23 rfl ?_
  refine x_bipush C (v := (-100 : Int32)) (by decide) (dkAt dk_J6_getChars_ba4f3 14 rfl) 25 rfl ?_
  refine xcT_gt C (show -(nI 100) < -(nI w) from (ng_lt (by omega) (by omega)).mpr (by omega)) 72 (dkAt dk_J6_getChars_ba4f3 15 rfl) (by decide) ?_
  refine x_aload_n C rfl rfl (dkAt dk_J6_getChars_ba4f3 43 rfl) 73 rfl ?_
  refine x_iinc C (v := ((nI (p + 1)) + (-1 : Int32))) (L1 := [some (.int (-(nI w))), some (.int (nI p0)), some (.ref (wad Γ 211)), none, none, some (.int ((nI (p + 1)) + (-1 : Int32))), some (.int (0 : Int32))]) (dkAt dk_J6_getChars_ba4f3 44 rfl) 76 rfl rfl rfl (by decide) rfl ?_
  rw [show nI (p + 1) + (-1 : Int32) = nI p from pk_m1 _]
  refine x_iload C rfl (dkAt dk_J6_getChars_ba4f3 45 rfl) 78 rfl ?_
  refine x_gsO C hN.1 fl_RJ6_83 (dkAt dk_J6_getChars_ba4f3 46 rfl) 81 rfl ?_
  refine x_iload_n C rfl rfl (dkAt dk_J6_getChars_ba4f3 47 rfl) 82 rfl ?_
  refine x_ineg C (dkAt dk_J6_getChars_ba4f3 48 rfl) 83 rfl ?_
  rw [show (-(-(nI w))) = (nI w) from Int32.neg_neg]
  refine x_balO C hN.1 (by omega) (dkAt dk_J6_getChars_ba4f3 49 rfl) 84 rfl ?_
  rw [show (nI (48 + w % 10)) = (nI (48 + w)) from (by congr 2; omega)]
  refine x_bastV C (n := 0) hN.2.2.1 (inB_nI (by omega) (by omega)) (dkAt dk_J6_getChars_ba4f3 50 rfl) 85 rfl ?_
  rw [show (nI p).toNatClampNeg = p from nI_clamp (by omega), show vp_nar .byte (nI (48 + w)) = nI (48 + w) from (vp_nar_dg _ (by omega)).1]
  refine x_iload_n C rfl rfl (dkAt dk_J6_getChars_ba4f3 51 rfl) 86 rfl ?_
  refine x_bipush C (v := (-9 : Int32)) (by decide) (dkAt dk_J6_getChars_ba4f3 52 rfl) 88 rfl ?_
  refine xcT_ge C (show -(nI 9) ≤ -(nI w) from (ng_le (by omega) (by omega)).mpr (by omega)) 104 (dkAt dk_J6_getChars_ba4f3 53 rfl) (by decide) ?_
  refine x_iload C rfl (dkAt dk_J6_getChars_ba4f3 62 rfl) 106 rfl ?_
  refine xiT_eq C rfl 118 (dkAt dk_J6_getChars_ba4f3 63 rfl) (by decide) ?_
  refine x_iload C rfl (dkAt dk_J6_getChars_ba4f3 69 rfl) 120 rfl ?_
  exact K _
theorem gc_end2 {Γ : WC} (hN : HB Γ) {X : MX} {R0 : Room} {M : Mem} {cs sl w p p0 : Nat} {a3 a4 : Option Value} (C : CX Γ X cJ6_getChars_ba4f3 7 RJ6 (some .int) R0) (hw : 10 ≤ w ∧ w < 100) (hp : p + 2 ≤ vlen M 211 ∧ p < 10000) (hp2 : vlen M 211 < 10000) (K : ∀ L, G Γ X (sI (sI M 211 (p + 1) (nI (48 + w % 10))) 211 p (nI (48 + w / 10))) cs sl L [.int (nI p)] 120) : G Γ X M cs sl [some (.int (-(nI w))), some (.int (nI p0)), some (.ref (wad Γ 211)), a3, a4, some (.int (nI (p + 2))), some (.int (0 : Int32))] [] 22 := by
  refine G.weak (L := [some (.int (-(nI w))), some (.int (nI p0)), some (.ref (wad Γ 211)), none, none, some (.int (nI (p + 2))), some (.int (0 : Int32))]) (by cases a3 <;> cases a4 <;> simp [LSub]) ?_
  refine x_iload_n C rfl rfl (dkAt dk_J6_getChars_ba4f3 13 rfl) 23 rfl ?_
  refine x_bipush C (v := (-100 : Int32)) (by decide) (dkAt dk_J6_getChars_ba4f3 14 rfl) 25 rfl ?_
  refine xcT_gt C (show -(nI 100) < -(nI w) from (ng_lt (by omega) (by omega)).mpr (by omega)) 72 (dkAt dk_J6_getChars_ba4f3 15 rfl) (by decide) ?_
  refine x_aload_n C rfl rfl (dkAt dk_J6_getChars_ba4f3 43 rfl) 73 rfl ?_
  refine x_iinc C (v := ((nI (p + 2)) + (-1 : Int32))) (L1 := [some (.int (-(nI w))), some (.int (nI p0)), some (.ref (wad Γ 211)), none, none, some (.int ((nI (p + 2)) + (-1 : Int32))), some (.int (0 : Int32))]) (dkAt dk_J6_getChars_ba4f3 44 rfl) 76 rfl rfl rfl (by decide) rfl ?_
  rw [show nI (p + 2) + (-1 : Int32) = nI (p + 1) from pk_m1 _]
  refine x_iload C rfl (dkAt dk_J6_getChars_ba4f3 45 rfl) 78 rfl ?_
  refine x_gsO C hN.1 fl_RJ6_83 (dkAt dk_J6_getChars_ba4f3 46 rfl) 81 rfl ?_
  refine x_iload_n C rfl rfl (dkAt dk_J6_getChars_ba4f3 47 rfl) 82 rfl ?_
  refine x_ineg C (dkAt dk_J6_getChars_ba4f3 48 rfl) 83 rfl ?_
  rw [show (-(-(nI w))) = (nI w) from Int32.neg_neg]
  refine x_balO C hN.1 (by omega) (dkAt dk_J6_getChars_ba4f3 49 rfl) 84 rfl ?_
  refine x_bastV C (n := 0) hN.2.2.1 (inB_nI (by omega) (by omega)) (dkAt dk_J6_getChars_ba4f3 50 rfl) 85 rfl ?_
  rw [show (nI (p + 1)).toNatClampNeg = (p + 1) from nI_clamp (by omega), show vp_nar .byte (nI (48 + w % 10)) = nI (48 + w % 10) from (vp_nar_dg _ (by omega)).1]
  refine x_iload_n C rfl rfl (dkAt dk_J6_getChars_ba4f3 51 rfl) 86 rfl ?_
  refine x_bipush C (v := (-9 : Int32)) (by decide) (dkAt dk_J6_getChars_ba4f3 52 rfl) 88 rfl ?_
  refine xcF_ge C (fun z => absurd ((ng_le (by omega) (by omega)).mp (show -(nI 9) ≤ -(nI w) from z)) (by omega)) 104 (dkAt dk_J6_getChars_ba4f3 53 rfl) (by decide) 91 rfl ?_
  refine x_aload_n C rfl rfl (dkAt dk_J6_getChars_ba4f3 54 rfl) 92 rfl ?_
  refine x_iinc C (v := ((nI (p + 1)) + (-1 : Int32))) (L1 := [some (.int (-(nI w))), some (.int (nI p0)), some (.ref (wad Γ 211)), none, none, some (.int ((nI (p + 1)) + (-1 : Int32))), some (.int (0 : Int32))]) (dkAt dk_J6_getChars_ba4f3 55 rfl) 95 rfl rfl rfl (by decide) rfl ?_
  rw [show nI (p + 1) + (-1 : Int32) = nI p from pk_m1 p]
  refine x_iload C rfl (dkAt dk_J6_getChars_ba4f3 56 rfl) 97 rfl ?_
  refine x_gsT C hN.1 fl_RJ6_87 (dkAt dk_J6_getChars_ba4f3 57 rfl) 100 rfl ?_
  refine x_iload_n C rfl rfl (dkAt dk_J6_getChars_ba4f3 58 rfl) 101 rfl ?_
  refine x_ineg C (dkAt dk_J6_getChars_ba4f3 59 rfl) 102 rfl ?_
  rw [show (-(-(nI w))) = (nI w) from Int32.neg_neg]
  refine x_balT C hN.1 (by omega) (dkAt dk_J6_getChars_ba4f3 60 rfl) 103 rfl ?_
  refine x_bastV C (n := 0) hN.2.2.1 (inB_nI (by show p < vlen M 211; omega) (by show vlen M 211 < 2 ^ 31; omega)) (dkAt dk_J6_getChars_ba4f3 61 rfl) 104 rfl ?_
  rw [show (nI p).toNatClampNeg = p from nI_clamp (by omega), show vp_nar .byte (nI (48 + w / 10)) = nI (48 + w / 10) from (vp_nar_dg _ (by omega)).1]
  refine x_iload C rfl (dkAt dk_J6_getChars_ba4f3 62 rfl) 106 rfl ?_
  refine xiT_eq C rfl 118 (dkAt dk_J6_getChars_ba4f3 63 rfl) (by decide) ?_
  refine x_iload C rfl (dkAt dk_J6_getChars_ba4f3 69 rfl) 120 rfl ?_
  exact K _
theorem cb_getChars {Γ : WC} (hN : HB Γ) {M : Mem} {n m : Nat} (hB : SBM M n m) {v : Nat} (hv : v < 100000) (hf : n + (dgs v).length ≤ m) : Ct Γ yJ6_getChars_ba4f3 cJ6_getChars_ba4f3 7 (some .int) (rmL 0 0 0) [.int (nI v), .int (nI (n + (dgs v).length)), .ref (wad Γ 211)] M (some (.int (nI n))) (putT M n (dgs v)) := by
  refine mkN hN.1.1 (own := RJ6) rfl (by decide) (Nat.le_of_ble_eq_true rfl) (fun X C E => ?_)
  have hm : m ≤ 2200 := hB.2.2.2.2.1
  have hv1 : ∀ bs j, vlen (putT M j bs) 211 = m := fun _ _ => hB.2.2.1
  change G Γ X M 0 0 [some (.int (nI v)), some (.int (nI (n + (dgs v).length))), some (.ref (wad Γ 211))] [] 0
  refine x_iload_n C rfl rfl (dkAt dk_J6_getChars_ba4f3 0 rfl) 1 rfl ?_
  refine x_istore C (L1 := [some (.int (nI v)), some (.int (nI (n + (dgs v).length))), some (.ref (wad Γ 211)), none, none, some (.int (nI (n + (dgs v).length)))]) (dkAt dk_J6_getChars_ba4f3 1 rfl) 3 rfl (by decide) rfl ?_
  refine x_iload_n C rfl rfl (dkAt dk_J6_getChars_ba4f3 2 rfl) 4 rfl ?_
  refine xiT_ge C (nI_pos' (by omega)) 11 (dkAt dk_J6_getChars_ba4f3 3 rfl) (by decide) ?_
  refine x_iconst C (v := (0 : Int32)) (by decide) (dkAt dk_J6_getChars_ba4f3 6 rfl) 12 rfl ?_
  refine x_istore C (L1 := [some (.int (nI v)), some (.int (nI (n + (dgs v).length))), some (.ref (wad Γ 211)), none, none, some (.int (nI (n + (dgs v).length))), some (.int (0 : Int32))]) (dkAt dk_J6_getChars_ba4f3 7 rfl) 14 rfl (by decide) rfl ?_
  refine x_iload C rfl (dkAt dk_J6_getChars_ba4f3 8 rfl) 16 rfl ?_
  refine xiF_ne C (fun z => z rfl) 22 (dkAt dk_J6_getChars_ba4f3 9 rfl) (by decide) 19 rfl ?_
  refine x_iload_n C rfl rfl (dkAt dk_J6_getChars_ba4f3 10 rfl) 20 rfl ?_
  refine x_ineg C (dkAt dk_J6_getChars_ba4f3 11 rfl) 21 rfl ?_
  refine x_istore_n C (L1 := [some (.int (-(nI v))), some (.int (nI (n + (dgs v).length))), some (.ref (wad Γ 211)), none, none, some (.int (nI (n + (dgs v).length))), some (.int (0 : Int32))]) (dkAt dk_J6_getChars_ba4f3 12 rfl) 22 rfl rfl (by decide) rfl ?_
  rw [← putT_nil (M := M) (j := n + (dgs v).length)]
  by_cases h1 : v < 10
  · have hd : dgs v = [48 + v] := by rw [dgs, if_pos h1]
    rw [hd] at E hf ⊢
    have hf : n + 1 ≤ m := hf
    change G Γ X (putT M (n + 1) []) 0 0 [some (.int (-(nI v))), some (.int (nI (n + 1))), some (.ref (wad Γ 211)), none, none, some (.int (nI (n + 1))), some (.int (0 : Int32))] [] 22
    refine gc_end1 hN C (w := v) (p := n) (p0 := n + 1) (by omega) (by rw [hv1]; omega) (by rw [hv1]; omega) (fun L => ?_)
    rw [sI_putT (j := n)]
    exact x_nret (rM := (0, M)) C E rfl (Nat.le_refl _) (Nat.le_refl _) (dkAt dk_J6_getChars_ba4f3 70 rfl)
  by_cases h2 : v < 100
  · have hd : dgs v = [48 + v / 10, 48 + v % 10] := by rw [dgs, if_neg h1, if_pos h2]
    rw [hd] at E hf ⊢
    have hf : n + 2 ≤ m := hf
    change G Γ X (putT M (n + 2) []) 0 0 [some (.int (-(nI v))), some (.int (nI (n + 2))), some (.ref (wad Γ 211)), none, none, some (.int (nI (n + 2))), some (.int (0 : Int32))] [] 22
    refine gc_end2 hN C (w := v) (p := n) (p0 := n + 2) (by omega) (by rw [hv1]; omega) (by rw [hv1]; omega) (fun L => ?_)
    rw [show 48 + v % 10 = 48 + v % 10 by omega, show 48 + v / 10 = 48 + v / 10 by omega, sI_putT (j := n + 1), sI_putT (j := n)]
    exact x_nret (rM := (0, M)) C E rfl (Nat.le_refl _) (Nat.le_refl _) (dkAt dk_J6_getChars_ba4f3 70 rfl)
  by_cases h3 : v < 1000
  · have hd : dgs v = [48 + v / 100, 48 + v / 10 % 10, 48 + v % 10] := by rw [dgs, if_neg h1, if_neg h2, if_pos h3]
    rw [hd] at E hf ⊢
    have hf : n + 3 ≤ m := hf
    change G Γ X (putT M (n + 3) []) 0 0 [some (.int (-(nI v))), some (.int (nI (n + 3))), some (.ref (wad Γ 211)), none, none, some (.int (nI (n + 3))), some (.int (0 : Int32))] [] 22
    refine gc_step hN C (w := v) (p := n + 1) (p0 := n + 3) (by omega) (by rw [hv1]; omega) (by rw [hv1]; omega) (fun b3 b4 => ?_)
    rw [show 48 + v % 10 = 48 + v % 10 by omega, show 48 + v / 10 % 10 = 48 + v / 10 % 10 by omega, sI_putT (j := n + 2), sI_putT (j := n + 1)]
    refine gc_end1 hN C (w := (v / 100)) (p := n) (p0 := n + 3) (by omega) (by rw [hv1]; omega) (by rw [hv1]; omega) (fun L => ?_)
    rw [show 48 + (v / 100) = 48 + v / 100 by omega, sI_putT (j := n)]
    exact x_nret (rM := (0, M)) C E rfl (Nat.le_refl _) (Nat.le_refl _) (dkAt dk_J6_getChars_ba4f3 70 rfl)
  by_cases h4 : v < 10000
  · have hd : dgs v = [48 + v / 1000, 48 + v / 100 % 10, 48 + v / 10 % 10, 48 + v % 10] := by rw [dgs, if_neg h1, if_neg h2, if_neg h3, if_pos h4]
    rw [hd] at E hf ⊢
    have hf : n + 4 ≤ m := hf
    change G Γ X (putT M (n + 4) []) 0 0 [some (.int (-(nI v))), some (.int (nI (n + 4))), some (.ref (wad Γ 211)), none, none, some (.int (nI (n + 4))), some (.int (0 : Int32))] [] 22
    refine gc_step hN C (w := v) (p := n + 2) (p0 := n + 4) (by omega) (by rw [hv1]; omega) (by rw [hv1]; omega) (fun b3 b4 => ?_)
    rw [show 48 + v % 10 = 48 + v % 10 by omega, show 48 + v / 10 % 10 = 48 + v / 10 % 10 by omega, sI_putT (j := n + 3), sI_putT (j := n + 2)]
    refine gc_end2 hN C (w := (v / 100)) (p := n) (p0 := n + 4) (by omega) (by rw [hv1]; omega) (by rw [hv1]; omega) (fun L => ?_)
    rw [show 48 + (v / 100) % 10 = 48 + v / 100 % 10 by omega, show 48 + (v / 100) / 10 = 48 + v / 1000 by omega, sI_putT (j := n + 1), sI_putT (j := n)]
    exact x_nret (rM := (0, M)) C E rfl (Nat.le_refl _) (Nat.le_refl _) (dkAt dk_J6_getChars_ba4f3 70 rfl)
  have hd : dgs v = [48 + v / 10000, 48 + v / 1000 % 10, 48 + v / 100 % 10, 48 + v / 10 % 10, 48 + v % 10] := by rw [dgs, if_neg h1, if_neg h2, if_neg h3, if_neg h4]
  rw [hd] at E hf ⊢
  have hf : n + 5 ≤ m := hf
  change G Γ X (putT M (n + 5) []) 0 0 [some (.int (-(nI v))), some (.int (nI (n + 5))), some (.ref (wad Γ 211)), none, none, some (.int (nI (n + 5))), some (.int (0 : Int32))] [] 22
  refine gc_step hN C (w := v) (p := n + 3) (p0 := n + 5) (by omega) (by rw [hv1]; omega) (by rw [hv1]; omega) (fun b3 b4 => ?_)
  rw [show 48 + v % 10 = 48 + v % 10 by omega, show 48 + v / 10 % 10 = 48 + v / 10 % 10 by omega, sI_putT (j := n + 4), sI_putT (j := n + 3)]
  refine gc_step hN C (w := (v / 100)) (p := n + 1) (p0 := n + 5) (by omega) (by rw [hv1]; omega) (by rw [hv1]; omega) (fun b3 b4 => ?_)
  rw [show 48 + (v / 100) % 10 = 48 + v / 100 % 10 by omega, show 48 + (v / 100) / 10 % 10 = 48 + v / 1000 % 10 by omega, sI_putT (j := n + 2), sI_putT (j := n + 1)]
  refine gc_end1 hN C (w := ((v / 100) / 100)) (p := n) (p0 := n + 5) (by omega) (by rw [hv1]; omega) (by rw [hv1]; omega) (fun L => ?_)
  rw [show 48 + ((v / 100) / 100) = 48 + v / 10000 by omega, sI_putT (j := n)]
  exact x_nret (rM := (0, M)) C E rfl (Nat.le_refl _) (Nat.le_refl _) (dkAt dk_J6_getChars_ba4f3 70 rfl)
