/-! the law's constructor goes on in contexts whose builder's row moves -/
def HX0 (Γ : WC) (b L : Nat) (xs : Nat → Int32) : Prop := va_X b L xs (wU Γ) (wU Γ).heap ∧ b < (wU Γ).heap.size
theorem hXV {Γ : WC} {b LX : Nat} {xs : Nat → Int32} {K : Mem → Prop} {ad : Nat → Nat} {l : List Nat} (hX : HX0 Γ b LX xs) (hb : ad 999 = b) : HX (gc Γ K ad l) b LX xs := ⟨hb, hX⟩
theorem svV {L : List (Option SV)} (hL : L.all (fun o => match o with
  | some (.inr o) => o == 210 || o == 108 || o == 109
  | _ => true) = true) : svL lL L := fun v hv => by
  have := List.all_eq_true.mp hL (some v) hv
  cases v with
  | inl v => trivial
  | inr o =>
    have e : (o = 210 ∨ o = 108) ∨ o = 109 := by simpa using this
    rcases e with (rfl | rfl) | rfl
    · exact ⟨Or.inl (by decide +kernel), by decide⟩
    · exact ⟨Or.inl (by decide +kernel), by decide⟩
    · exact ⟨Or.inl (by decide +kernel), by decide⟩
theorem svW {L : List SV} (hL : L.all (fun o => match o with
  | .inr o => o == 210 || o == 108 || o == 109
  | _ => true) = true) : svS lL L := fun v hv => by
  have := List.all_eq_true.mp hL v hv
  cases v with
  | inl v => trivial
  | inr o =>
    have e : (o = 210 ∨ o = 108) ∨ o = 109 := by simpa using this
    rcases e with (rfl | rfl) | rfl
    · exact ⟨Or.inl (by decide +kernel), by decide⟩
    · exact ⟨Or.inl (by decide +kernel), by decide⟩
    · exact ⟨Or.inl (by decide +kernel), by decide⟩
theorem ro_c {n n' mc c k ms' r maxL : Nat} (h : n' + 1 ≤ n) (hm : maxL ≤ 24) (hc : c + k ≤ mc) (hs : ms' ≤ r * k) : RO (rmL n' k ms') (rmL n mc (r * mc)) maxL c (r * c) := by
  refine ⟨?_, ?_, hc, ?_⟩
  · show n' + 1 + 1 ≤ n + 1
    omega
  · show 8 + (maxL + 11) + 44 * (n' + 1) ≤ 44 * (n + 1)
    omega
  · show r * c + ms' ≤ r * mc
    have := Nat.mul_le_mul_left r hc
    rw [Nat.mul_add] at this
    omega
section VApp
variable {Γ : WC} {X : MX} {M : Mem} {c mc lev : Nat} {pc : Nat} {cc : ByteArray} {nL : Nat} {own : String} {ret : Option FieldType} {ad0 ad : Nat → Nat} {L : List (Option SV)} {st : List SV} {L1 : List (Option Value)} {st1 : List Value} {β : Type} {k : Mem → Option β} {rM : β} {idx : Nat}
theorem v_appS {t : Nat} (C : CX Γ X cc nL own ret (rmL lev mc (2200 * mc))) (hT : HT Γ) (hag : agr lL ad0 ad) (ht : t < 21) (hl : 6 ≤ lev) (hc : c + 1 ≤ mc) (hf : apK M (WL.getD t []) k = some rM) (ln : Gd (.methodLink own idx yJ4_append_15ec4)) (hL1 : L1 = evL ad L) (hs1 : st1 = .ref (wst Γ t) :: .ref (ad 210) :: evS ad st) (hL : svL lL L) (hs : svS lL st) (hw : ((evS ad st).map fun v => v.category).sum ≤ 8) (d : decode cc pc = .ok (.invokevirtual idx, 3)) (q : Nat) (hq : pc + 3 = q) (K : ∀ M1 ad, k M1 = some rM → agr lL ad0 ad → G (gc Γ SRV ad lL) X M1 (c + 1) (2200 * (c + 1)) (evL ad L) (.ref (ad 210) :: evS ad st) q) : G (gc Γ SRV ad lL) X M c (2200 * c) L1 st1 pc := by
  obtain ⟨⟨n, m, hB, hn⟩, hf⟩ := if_some hf
  exact d_cV C (cb_appendS hT lbV hB ht hn) mw_J4_append_15ec4 ln mi_J4_append_15ec4 (show RC (gc Γ SRV ad lL) 210 RJ4 from ⟨15, 4, _, (lbV.hb hT).2.1, rc15, rfl⟩) (ro_c (by omega) (by decide) hc (by omega)) rfl hag (fun _ h => h) hL1 hs1 hL hs hw d q hq rfl (by show 2200 * c + 2200 = _; omega) (fun _ ad1 hag1 => K _ ad1 hf hag1)
theorem v_appI {v : Int32} (C : CX Γ X cc nL own ret (rmL lev mc (2200 * mc))) (hT : HT Γ) (hag : agr lL ad0 ad) (hl : 6 ≤ lev) (hc : c + 1 ≤ mc) (hf : apI M v k = some rM) (ln : Gd (.methodLink own idx yJ4_append_bf812)) (hL1 : L1 = evL ad L) (hs1 : st1 = .int v :: .ref (ad 210) :: evS ad st) (hL : svL lL L) (hs : svS lL st) (hw : ((evS ad st).map fun v => v.category).sum ≤ 8) (d : decode cc pc = .ok (.invokevirtual idx, 3)) (q : Nat) (hq : pc + 3 = q) (K : ∀ M1 ad, k M1 = some rM → agr lL ad0 ad → G (gc Γ SRV ad lL) X M1 (c + 1) (2200 * (c + 1)) (evL ad L) (.ref (ad 210) :: evS ad st) q) : G (gc Γ SRV ad lL) X M c (2200 * c) L1 st1 pc := by
  obtain ⟨w, rfl, hw1, ⟨n, m, hB, hn⟩, hf⟩ := apI_inv hf
  exact d_cV C (cb_appendI hT lbV hB hw1 hn) mw_J4_append_bf812 ln mi_J4_append_bf812 (show RC (gc Γ SRV ad lL) 210 RJ4 from ⟨15, 4, _, (lbV.hb hT).2.1, rc15, rfl⟩) (ro_c (by omega) (by decide) hc (by omega)) rfl hag (fun _ h => h) hL1 hs1 hL hs hw d q hq rfl (by show 2200 * c + 2200 = _; omega) (fun _ ad1 hag1 => K _ ad1 hf hag1)
theorem v_appC (C : CX Γ X cc nL own ret (rmL lev mc (2200 * mc))) (hT : HT Γ) (hag : agr lL ad0 ad) (hl : 6 ≤ lev) (hc : c + 1 ≤ mc) (hf : apK M [32] k = some rM) (ln : Gd (.methodLink own idx yJ4_append_cf468)) (hL1 : L1 = evL ad L) (hs1 : st1 = .int (32 : Int32) :: .ref (ad 210) :: evS ad st) (hL : svL lL L) (hs : svS lL st) (hw : ((evS ad st).map fun v => v.category).sum ≤ 8) (d : decode cc pc = .ok (.invokevirtual idx, 3)) (q : Nat) (hq : pc + 3 = q) (K : ∀ M1 ad, k M1 = some rM → agr lL ad0 ad → G (gc Γ SRV ad lL) X M1 (c + 1) (2200 * (c + 1)) (evL ad L) (.ref (ad 210) :: evS ad st) q) : G (gc Γ SRV ad lL) X M c (2200 * c) L1 st1 pc := by
  obtain ⟨⟨n, m, hB, hn⟩, hf⟩ := if_some hf
  exact d_cV C (cb_appendC hT lbV hB hn) mw_J4_append_cf468 ln mi_J4_append_cf468 (show RC (gc Γ SRV ad lL) 210 RJ4 from ⟨15, 4, _, (lbV.hb hT).2.1, rc15, rfl⟩) (ro_c (by omega) (by decide) hc (by omega)) rfl hag (fun _ h => h) hL1 hs1 hL hs hw d q hq rfl (by show 2200 * c + 2200 = _; omega) (fun _ ad1 hag1 => K _ ad1 hf hag1)
end VApp
theorem lk_RX12_14 : FLk RX12 14 12 0 2 := ⟨_, _, _, rc12, by decide, by decide +kernel, uw12, gd 729 (by decide +kernel) rfl⟩
theorem lk_RX12_24 : FLk RX12 24 12 7 2 := ⟨_, _, _, rc12, by decide, by decide +kernel, uw12, gd 743 (by decide +kernel) rfl⟩
theorem lk_RX12_29 : FLk RX12 29 12 8 2 := ⟨_, _, _, rc12, by decide, by decide +kernel, uw12, gd 745 (by decide +kernel) rfl⟩
theorem lk_RX12_32 : FLk RX12 32 12 9 2 := ⟨_, _, _, rc12, by decide, by decide +kernel, uw12, gd 747 (by decide +kernel) rfl⟩
theorem lk_RX12_37 : FLk RX12 37 12 10 2 := ⟨_, _, _, rc12, by decide, by decide +kernel, uw12, gd 749 (by decide +kernel) rfl⟩
theorem lk_RX12_40 : FLk RX12 40 12 11 2 := ⟨_, _, _, rc12, by decide, by decide +kernel, uw12, gd 750 (by decide +kernel) rfl⟩
theorem lk_RX12_43 : FLk RX12 43 12 12 2 := ⟨_, _, _, rc12, by decide, by decide +kernel, uw12, gd 751 (by decide +kernel) rfl⟩
theorem lk_RX12_48 : FLk RX12 48 12 13 2 := ⟨_, _, _, rc12, by decide, by decide +kernel, uw12, gd 752 (by decide +kernel) rfl⟩
theorem lk_RX12_67 : FLk RX12 67 12 1 0 := ⟨_, _, _, rc12, by decide, by decide +kernel, uw12, gd 731 (by decide +kernel) rfl⟩
theorem lk_RX12_87 : FLk RX12 87 12 2 0 := ⟨_, _, _, rc12, by decide, by decide +kernel, uw12, gd 733 (by decide +kernel) rfl⟩
theorem lk_RX13_7 : FLk RX13 7 13 0 2 := ⟨_, _, _, rc13, by decide, by decide +kernel, uw13, gd 802 (by decide +kernel) rfl⟩
theorem lk_RX13_13 : FLk RX13 13 13 1 0 := ⟨_, _, _, rc13, by decide, by decide +kernel, uw13, gd 803 (by decide +kernel) rfl⟩
theorem pk_RX13_13 : FPk RX13 13 13 1 0 false (fun v => ∃ x, v = .int x) := ⟨_, _, _, tyX13, rc13, by decide, by decide +kernel, uw13, gd 803 (by decide +kernel) rfl, rfl, (fun h => nomatch h), tyX13_ok, nmX13, (fun v h => by obtain ⟨x, rfl⟩ := h; exact ⟨rfl, rfl⟩)⟩
theorem ln_RX12_61 : Gd (.methodLink RX12 61 yX13_next) := gd 655 (by decide +kernel) rfl
theorem ln_RX12_76 : Gd (.methodLink RX12 76 yJ4_append_bf812) := gd 660 (by decide +kernel) rfl
theorem ln_RX12_82 : Gd (.methodLink RX12 82 yJ4_append_15ec4) := gd 686 (by decide +kernel) rfl
theorem ln_RX12_111 : Gd (.methodLink RX12 111 yJ9_abs_0f7a4) := gd 696 (by decide +kernel) rfl
theorem ln_RX12_119 : Gd (.methodLink RX12 119 yJ4_append_cf468) := gd 700 (by decide +kernel) rfl
theorem mw_X13_next : MW yX13_next cX13_next 4 (some .int) 2 := ⟨gd 47 (by decide +kernel) rfl, gd 658 (by decide +kernel) rfl, ⟨by decide, by decide⟩, by decide +kernel⟩
theorem mi_X13_next : (Gd (.instanceMethod yX13_next) ∧ Gd (.selects yX13_next.cls yX13_next yX13_next)) := ⟨gd 656 (by decide +kernel) rfl, gd 657 (by decide +kernel) rfl⟩
theorem ci_RX13_17 : Gd (.constant RX13 17 (2147483647 : Int32)) := gd 659 (by decide +kernel) rfl
theorem c_X13_next {Γ : WC} {sh : Nat → Option SE} (hL : HLa Γ sh) {b LX : Nat} {xs : Nat → Int32} (hX : HX Γ b LX xs) {M : Mem} {p0 p1 : Int32} {rM : Int32 × Mem} (hf : f_X13_next LX xs M p0 p1 = some rM) : Ct Γ yX13_next cX13_next 4 (some .int) (rmL 0 0 0) [.ref (wad Γ 108), .int p0, .int p1] M (some (.int rM.1)) rM.2 := by
  obtain ⟨⟨h0, h1, h2⟩, hf⟩ := if_some hf
  have e1 := Option.some.inj hf
  refine mkN hL.1.1 (own := RX13) rfl (by decide) (Nat.le_of_ble_eq_true rfl) (fun X C E => ?_)
  have on108 := hL.2.1 108 (19, 2) rfl
  obtain ⟨at9, hat, hat2⟩ := nI_of h0
  change G Γ X M 0 0 [some (.ref (wad Γ 108)), some (.int p0), some (.int p1)] [] 0
  have tail : G Γ X M 0 0 [some (.ref (wad Γ 108)), some (.int p0), some (.int p1)] [.int (nxV LX xs M)] 28 := by
    refine x_istore_n C (L1 := [some (.ref (wad Γ 108)), some (.int p0), some (.int p1), some (.int (nxV LX xs M))]) (dkAt dk_X13_next 15 rfl) 29 rfl rfl (by decide) rfl ?_
    refine x_aload_n C rfl rfl (dkAt dk_X13_next 16 rfl) 30 rfl ?_
    refine x_dup C rfl (dkAt dk_X13_next 17 rfl) 31 rfl ?_
    refine x_getIv C lk_RX13_13 on108 (dkAt dk_X13_next 18 rfl) 34 rfl ?_
    refine x_iconst C (v := (1 : Int32)) (by decide) (dkAt dk_X13_next 19 rfl) 35 rfl ?_
    refine x_iadd C (dkAt dk_X13_next 20 rfl) 36 rfl ?_
    refine x_putIv C pk_RX13_13 ⟨_, rfl⟩ on108 (dkAt dk_X13_next 21 rfl) 39 rfl ?_
    refine x_iload_n C rfl rfl (dkAt dk_X13_next 22 rfl) 40 rfl ?_
    refine x_iload_n C rfl rfl (dkAt dk_X13_next 23 rfl) 41 rfl ?_
    refine x_iload_n C rfl rfl (dkAt dk_X13_next 24 rfl) 42 rfl ?_
    refine x_iload_n C rfl rfl (dkAt dk_X13_next 25 rfl) 43 rfl ?_
    refine x_isub C (dkAt dk_X13_next 26 rfl) 44 rfl ?_
    refine x_iconst C (v := (1 : Int32)) (by decide) (dkAt dk_X13_next 27 rfl) 45 rfl ?_
    refine x_iadd C (dkAt dk_X13_next 28 rfl) 46 rfl ?_
    refine x_irem2 h1 C (dkAt dk_X13_next 29 rfl) 47 rfl ?_
    refine x_iadd C (dkAt dk_X13_next 30 rfl) 48 rfl ?_
    exact x_iret C E (by rw [← e1]; rfl) (Nat.zero_le _) (Nat.zero_le _) (dkAt dk_X13_next 31 rfl)
  refine x_aload_n C rfl rfl (dkAt dk_X13_next 0 rfl) 1 rfl ?_
  refine x_getIv C lk_RX13_13 on108 (dkAt dk_X13_next 1 rfl) 4 rfl ?_
  refine x_aload_n C rfl rfl (dkAt dk_X13_next 2 rfl) 5 rfl ?_
  refine x_getS C lk_RX13_7 on108 (hL.2.2.2 108 0 999 rfl) (dkAt dk_X13_next 3 rfl) 8 rfl ?_
  refine x_slenX C hX (dkAt dk_X13_next 4 rfl) 9 rfl ?_
  by_cases hge : nI LX ≤ gI M 108 1
  · refine xcT_ge C hge 27 (dkAt dk_X13_next 5 rfl) (by decide) ?_
    refine x_iconst C (v := (0 : Int32)) (by decide) (dkAt dk_X13_next 14 rfl) 28 rfl ?_
    rw [show nxV LX xs M = 0 from if_pos hge] at tail
    exact tail
  · refine xcF_ge C hge 27 (dkAt dk_X13_next 5 rfl) (by decide) 12 rfl ?_
    refine x_aload_n C rfl rfl (dkAt dk_X13_next 6 rfl) 13 rfl ?_
    refine x_getS C lk_RX13_7 on108 (hL.2.2.2 108 0 999 rfl) (dkAt dk_X13_next 7 rfl) 16 rfl ?_
    refine x_aload_n C rfl rfl (dkAt dk_X13_next 8 rfl) 17 rfl ?_
    refine x_getIv C lk_RX13_13 on108 (dkAt dk_X13_next 9 rfl) 20 rfl ?_
    refine x_sld C hX (by rw [hat2] at hge ⊢; exact inB_nI (Nat.lt_of_not_le (fun z => hge (nI_le z hat))) (by omega)) (dkAt dk_X13_next 10 rfl) 21 rfl ?_
    refine x_ldcI C ci_RX13_17 (dkAt dk_X13_next 11 rfl) 23 rfl ?_
    refine x_iand C (dkAt dk_X13_next 12 rfl) 24 rfl ?_
    refine x_goto C 28 (dkAt dk_X13_next 13 rfl) (by decide) ?_
    rw [show nxV LX xs M = xs (gI M 108 1).toNatClampNeg &&& 2147483647 from if_neg hge] at tail
    exact tail
noncomputable def f_X12_act_L79 (sh : Nat → Option SE) (Z : Nat) (LX : Nat) (xs : Nat → Int32) (p1 : Int32) (p2 : Int32) (k : Mem → Nat → Option (Unit × Mem)) : Nat → Int32 → Mem → Nat → Option (Unit × Mem)
  | 0, _, _, _ => none
  | n + 1, x16, M17, c18 => bd (gI M17 (109) 2) (fun v19 => (if v19 ≤ x16 then k M17 c18 else rdQ M17 126 6 p1 sh (5, 1003) (fun o20 => rdQ M17 o20 3 p2 sh (0, 3) (fun o21 => (if c18 + 0 ≤ 40 then cl (f_X13_next LX xs M17 (0 : Int32) (2 : Int32)) (fun v22 M23 => jn (fun (t25 : Int32 × Mem) => wrI t25.2 o21 3 x16 t25.1 (fun M26 => rdQ M26 126 6 p1 sh (5, 1003) (fun o27 => rdQ M26 o27 3 p2 sh (0, 3) (fun o28 => rdI M26 o28 3 x16 (fun v29 => jn (fun (t30 : Mem × Nat) => f_X12_act_L79 sh Z LX xs p1 p2 k n (x16 + (1 : Int32)) t30.1 t30.2) (fun j31 => (if v29 ≤ 0 then j31 (M26, c18) else (if c18 + 1 ≤ 40 then apK M26 (WL.getD 17 []) (fun M32 => (if (c18 + 1) + 1 ≤ 40 then apI M32 x16 (fun M33 => (if ((c18 + 1) + 1) + 1 ≤ 40 then apK M33 [32] (fun M34 => rdQ M34 126 6 p1 sh (5, 1003) (fun o35 => rdQ M34 o35 3 p2 sh (0, 3) (fun o36 => rdI M34 o36 3 x16 (fun v37 => (if (((c18 + 1) + 1) + 1) + 1 ≤ 40 then apI M34 v37 (fun M38 => j31 (M38, ((((c18 + 1) + 1) + 1) + 1))) else none))))) else none)) else none)) else none)))))))) (fun j39 => (if v22 = 0 then j39 ((0 : Int32), M23) else (if c18 + 0 ≤ 40 then cl (f_X13_next LX xs M23 (1 : Int32) (60 : Int32)) (fun v40 M41 => j39 (v40, M41)) else none)))) else none)))))
noncomputable def f_X12_act_L196 (sh : Nat → Option SE) (Z : Nat) (LX : Nat) (xs : Nat → Int32) (p1 : Int32) (p2 : Int32) (v46 : Int32) : Nat → Int32 → Int32 → Int32 → Mem → Nat → Option (Unit × Mem)
  | 0, _, _, _, _, _ => none
  | n + 1, x49, x50, x51, M52, c53 => bd (gI M52 (109) 1) (fun v54 => (if v54 ≤ x51 then (if c53 ≤ 40 then some ((), M52) else none) else (if x49 ≤ 0 then (if c53 ≤ 40 then some ((), M52) else none) else bd (gI M52 (109) 1) (fun v55 => nzI v55 (bd (gI M52 (109) 1) (fun v56 => jn (fun (t57 : Int32 × Mem) => rdQ t57.2 151 6 p1 sh (5, 1003) (fun o58 => rdQ t57.2 o58 3 p2 sh (0, 6) (fun o59 => wrI t57.2 o59 6 ((v46 + x51) - (v46 + x51) / v55 * v55) t57.1 (fun M60 => rdQ M60 176 6 p1 sh (5, 1003) (fun o61 => rdQ M60 o61 3 p2 sh (0, 7) (fun o62 => wrI M60 o62 7 x50 ((v46 + x51) - (v46 + x51) / v55 * v55) (fun M63 => (if c53 + 1 ≤ 40 then apK M63 (WL.getD 18 []) (fun M64 => (if (c53 + 1) + 1 ≤ 40 then apI M64 ((v46 + x51) - (v46 + x51) / v55 * v55) (fun M65 => (if ((c53 + 1) + 1) + 1 ≤ 40 then apK M65 [32] (fun M66 => (if (((c53 + 1) + 1) + 1) + 1 ≤ 40 then apI M66 t57.1 (fun M67 => f_X12_act_L196 sh Z LX xs p1 p2 v46 n (x49 - t57.1) (x50 + (1 : Int32)) (x51 + (1 : Int32)) M67 ((((c53 + 1) + 1) + 1) + 1)) else none)) else none)) else none)) else none)))))))) (fun j68 => jn (fun (t69 : Mem) => j68 (x49, t69)) (fun j70 => (if x51 = (v56 - (1 : Int32)) then j70 M52 else (if c53 + 0 ≤ 40 then cl (f_X13_next LX xs M52 (0 : Int32) (2 : Int32)) (fun v71 M72 => (if v71 = 0 then j70 M72 else (if c53 + 0 ≤ 40 then cl (f_X13_next LX xs M72 (1 : Int32) x49) (fun v74 M75 => j68 (v74, M75)) else none))) else none))))))))))
noncomputable def f_X12_act (sh : Nat → Option SE) (Z : Nat) (LX : Nat) (xs : Nat → Int32) (M : Mem) (p1 : Int32) (p2 : Int32) : Option (Unit × Mem) :=
  rdQ M 112 6 p1 sh (0, 3) (fun o1 => (if 0 + 0 ≤ 40 then cl (f_X13_next LX xs M (0 : Int32) (60 : Int32)) (fun v2 M3 => wrI M3 o1 3 p2 (v2 - (20 : Int32)) (fun M5 => rdQ M5 201 6 p1 sh (3, 3) (fun o6 => wrZ M5 o6 3 p2 (1 : Int32) (fun M7 => (if 0 + 1 ≤ 40 then apK M7 (WL.getD 14 []) (fun M8 => (if (0 + 1) + 1 ≤ 40 then apI M8 p1 (fun M9 => rdQ M9 112 6 p1 sh (0, 3) (fun o10 => rdI M9 o10 3 p2 (fun v11 => jn (fun (t12 : Mem × Nat) => rdQ t12.1 112 6 p1 sh (0, 3) (fun o13 => rdI t12.1 o13 3 p2 (fun v14 => (if t12.2 + 0 ≤ 40 then (if t12.2 + 1 ≤ 40 then apI t12.1 (aabs v14) (fun M15 => f_X12_act_L79 sh Z LX xs p1 p2 (fun (M43 : Mem) (c44 : Nat) => bd (gI M43 (109) 1) (fun v45 => (if c44 + 0 ≤ 40 then cl (f_X13_next LX xs M43 (0 : Int32) (v45 - (1 : Int32))) (fun v46 M47 => f_X12_act_L196 sh Z LX xs p1 p2 v46 Z (100 : Int32) (0 : Int32) (0 : Int32) M47 c44) else none))) Z (0 : Int32) M15 (t12.2 + 1)) else none) else none)))) (fun j77 => (if 0 ≤ v11 then (if ((0 + 1) + 1) + 1 ≤ 40 then apK M9 (WL.getD 16 []) (fun M78 => j77 (M78, (((0 + 1) + 1) + 1))) else none) else (if ((0 + 1) + 1) + 1 ≤ 40 then apK M9 (WL.getD 15 []) (fun M79 => j77 (M79, (((0 + 1) + 1) + 1))) else none)))))) else none)) else none))))) else none))
set_option maxRecDepth 100000 in
theorem l_X12_act_L79 {Γ : WC} {X : MX} (hT : HT Γ) {b : Nat} {LX : Nat} {xs : Nat → Int32} (hX : HX0 Γ b LX xs) (C : CX Γ X cX12_act 10 RX12 none (rmL 7 40 (2200 * 40))) {ad0 : Nat → Nat} (hb : ad0 999 = b) {rM : Unit × Mem} (E : EndD Γ SRV X ad0 lL lL none rM.2 40 (2200 * 40)) {Z : Nat} {p1 : Int32} {p2 : Int32} {k : Mem → Nat → Option (Unit × Mem)} (hk : ∀  (Mx : Mem) (cx : Nat), k Mx cx = some rM → ∀ ad, agr lL ad0 ad → G (gc Γ SRV ad lL) X Mx cx (2200 * cx) [some (.ref (wad (gc Γ SRV ad lL) 109)), some (.ref (wad (gc Γ SRV ad lL) 108)), some (.int p1), some (.int p2)] [] 173) : ∀ (n : Nat) (x16 : Int32) (M17 : Mem) (c18 : Nat), f_X12_act_L79 shL Z LX xs p1 p2 k n x16 M17 c18 = some rM → ∀ ad, agr lL ad0 ad → G (gc Γ SRV ad lL) X M17 c18 (2200 * c18) [some (.ref (wad (gc Γ SRV ad lL) 109)), some (.ref (wad (gc Γ SRV ad lL) 108)), some (.int p1), some (.int p2), some (.int x16)] [] 79 := by
  intro n
  induction n with
  | zero =>
    intro x16 M17 c18 hf ad hag
    have hf0 : (none : Option _) = some rM := hf
    cases hf0
  | succ n ih =>
    intro x16 M17 c18 hf ad hag
    rw [f_X12_act_L79] at hf
    refine x_iload (C.gc krV ad lL) rfl (dkAt dk_X12_act_0 47 rfl) 81 rfl ?_
    refine x_aload_n (C.gc krV ad lL) rfl rfl (dkAt dk_X12_act_1 0 rfl) 82 rfl ?_
    refine x_getI (C.gc krV ad lL) lk_RX12_87 ((hV hT ad).2.1 109 (18, 17) rfl) (dkAt dk_X12_act_1 1 rfl) 85 rfl hf (fun v19 hf => ?_)
    refine x_icmp_ge (C.gc krV ad lL) 173 (dkAt dk_X12_act_1 2 rfl) 88 rfl (by decide) hf (fun hf => ?_) (fun hf => ?_)
    · exact G.weak (L := [some (.ref (wad (gc Γ SRV ad lL) 109)), some (.ref (wad (gc Γ SRV ad lL) 108)), some (.int p1), some (.int p2)]) ⟨rfl, rfl, rfl, rfl, trivial⟩ (hk _ _ hf ad hag)
    · refine x_aload_n (C.gc krV ad lL) rfl rfl (dkAt dk_X12_act_1 3 rfl) 89 rfl ?_
      refine x_getS (C.gc krV ad lL) lk_RX12_37 ((hV hT ad).2.1 109 (18, 17) rfl) ((hV hT ad).2.2.2 109 10 126 rfl) (dkAt dk_X12_act_1 4 rfl) 92 rfl ?_
      refine x_iload_n (C.gc krV ad lL) rfl rfl (dkAt dk_X12_act_1 5 rfl) 93 rfl ?_
      refine x_qald (C.gc krV ad lL) (k9 := 2) (n := 6) (by decide) (by decide) ((hV hT ad).2.1 126 (5, 2006) rfl) (dkAt dk_X12_act_1 6 rfl) 94 rfl hf (fun o20 h_o20 hf => ?_)
      refine x_iload_n (C.gc krV ad lL) rfl rfl (dkAt dk_X12_act_1 7 rfl) 95 rfl ?_
      refine x_qald (C.gc krV ad lL) (k9 := 1) (n := 3) (by decide) (by decide) ((hV hT ad).2.2.1 _ _ h_o20) (dkAt dk_X12_act_1 8 rfl) 96 rfl hf (fun o21 h_o21 hf => ?_)
      refine x_iload (C.gc krV ad lL) rfl (dkAt dk_X12_act_1 9 rfl) 98 rfl ?_
      refine x_aload_n (C.gc krV ad lL) rfl rfl (dkAt dk_X12_act_1 10 rfl) 99 rfl ?_
      refine x_iconst (C.gc krV ad lL) (v := (0 : Int32)) (by decide) (dkAt dk_X12_act_1 11 rfl) 100 rfl ?_
      refine x_iconst (C.gc krV ad lL) (v := (2 : Int32)) (by decide) (dkAt dk_X12_act_1 12 rfl) 101 rfl ?_
      obtain ⟨hc, hf⟩ := if_some hf
      obtain ⟨v22, M23, h24, hf⟩ := cl_inv hf
      refine x_cVi (C.gc krV ad lL) (c_X13_next (hV hT ad) (hXV hX (hag.b hb)) h24) mw_X13_next ln_RX12_61 mi_X13_next (show RC _ 108 RX13 from ⟨13, 2, _, ((hV hT ad).2.1 108 (19, 2) rfl), rc13, rfl⟩) (ro_c (k := 0) (by decide) (by decide) hc (Nat.zero_le _)) rfl rfl (Nat.le_of_ble_eq_true rfl) (dkAt dk_X12_act_1 13 rfl) 104 rfl _ _ rfl rfl ?_
      change G (gc Γ SRV ad lL) X M23 c18 (2200 * c18) [some (.ref (wad (gc Γ SRV ad lL) 109)), some (.ref (wad (gc Γ SRV ad lL) 108)), some (.int p1), some (.int p2), some (.int x16)] [.int v22, .int x16, .ref (wad (gc Γ SRV ad lL) o21)] 104
      refine x_join hf (fun t25 => ∀ ad, agr lL ad0 ad → G (gc Γ SRV ad lL) X t25.2 c18 (2200 * c18) [some (.ref (wad (gc Γ SRV ad lL) 109)), some (.ref (wad (gc Γ SRV ad lL) 108)), some (.int p1), some (.int p2), some (.int x16)] [.int t25.1, .int x16, .ref (wad (gc Γ SRV ad lL) o21)] 118) (fun t25 hf ad hag => ?_) (fun j39 hj39 hf => ?_)
      · refine x_iast (C.gc krV ad lL) ((hV hT ad).2.2.1 _ _ h_o21) (dkAt dk_X12_act_1 21 rfl) 119 rfl hf (fun M26 hf => ?_)
        refine x_aload_n (C.gc krV ad lL) rfl rfl (dkAt dk_X12_act_1 22 rfl) 120 rfl ?_
        refine x_getS (C.gc krV ad lL) lk_RX12_37 ((hV hT ad).2.1 109 (18, 17) rfl) ((hV hT ad).2.2.2 109 10 126 rfl) (dkAt dk_X12_act_1 23 rfl) 123 rfl ?_
        refine x_iload_n (C.gc krV ad lL) rfl rfl (dkAt dk_X12_act_1 24 rfl) 124 rfl ?_
        refine x_qald (C.gc krV ad lL) (k9 := 2) (n := 6) (by decide) (by decide) ((hV hT ad).2.1 126 (5, 2006) rfl) (dkAt dk_X12_act_1 25 rfl) 125 rfl hf (fun o27 h_o27 hf => ?_)
        refine x_iload_n (C.gc krV ad lL) rfl rfl (dkAt dk_X12_act_1 26 rfl) 126 rfl ?_
        refine x_qald (C.gc krV ad lL) (k9 := 1) (n := 3) (by decide) (by decide) ((hV hT ad).2.2.1 _ _ h_o27) (dkAt dk_X12_act_1 27 rfl) 127 rfl hf (fun o28 h_o28 hf => ?_)
        refine x_iload (C.gc krV ad lL) rfl (dkAt dk_X12_act_1 28 rfl) 129 rfl ?_
        refine x_iald (C.gc krV ad lL) ((hV hT ad).2.2.1 _ _ h_o28) (dkAt dk_X12_act_1 29 rfl) 130 rfl hf (fun v29 hf => ?_)
        refine x_join hf (fun t30 => ∀ ad, agr lL ad0 ad → G (gc Γ SRV ad lL) X t30.1 t30.2 (2200 * t30.2) [some (.ref (wad (gc Γ SRV ad lL) 109)), some (.ref (wad (gc Γ SRV ad lL) 108)), some (.int p1), some (.int p2), some (.int x16)] [] 167) (fun t30 hf ad hag => ?_) (fun j31 hj31 hf => ?_)
        · refine x_iinc (C.gc krV ad lL) (v := (x16 + (1 : Int32))) (L1 := [some (.ref (wad (gc Γ SRV ad lL) 109)), some (.ref (wad (gc Γ SRV ad lL) 108)), some (.int p1), some (.int p2), some (.int (x16 + (1 : Int32)))]) (dkAt dk_X12_act_2 1 rfl) 170 rfl rfl rfl (by decide) rfl ?_
          refine x_goto (C.gc krV ad lL) 79 (dkAt dk_X12_act_2 2 rfl) (by decide) ?_
          exact G.weak (L := [some (.ref (wad (gc Γ SRV ad lL) 109)), some (.ref (wad (gc Γ SRV ad lL) 108)), some (.int p1), some (.int p2), some (.int (x16 + (1 : Int32)))]) ⟨rfl, rfl, rfl, rfl, rfl, trivial⟩ (ih _ _ _ hf ad hag)
        · refine x_if_le (C.gc krV ad lL) 167 (dkAt dk_X12_act_1 30 rfl) 133 rfl (by decide) hf (fun hf => ?_) (fun hf => ?_)
          · exact G.weak (L := [some (.ref (wad (gc Γ SRV ad lL) 109)), some (.ref (wad (gc Γ SRV ad lL) 108)), some (.int p1), some (.int p2), some (.int x16)]) ⟨rfl, rfl, rfl, rfl, rfl, trivial⟩ (hj31 _ hf ad hag)
          · refine x_aload_n (C.gc krV ad lL) rfl rfl (dkAt dk_X12_act_1 31 rfl) 134 rfl ?_
            refine x_getS (C.gc krV ad lL) lk_RX12_14 ((hV hT ad).2.1 109 (18, 17) rfl) ((hV hT ad).2.2.2 109 0 210 rfl) (dkAt dk_X12_act_1 32 rfl) 137 rfl ?_
            refine x_ldcS (C.gc krV ad lL) (hT.2.st (i := 7) rfl) (dkAt dk_X12_act_1 33 rfl) 139 rfl ?_
            obtain ⟨hc, hf⟩ := if_some hf
            refine v_appS (L := [some (.inr 109), some (.inr 108), some (.inl (.int p1)), some (.inl (.int p2)), some (.inl (.int x16))]) (st := []) C hT hag (by decide) (by decide) hc hf ln_RX12_82 rfl rfl (svV rfl) (svW rfl) (Nat.le_of_ble_eq_true rfl) (dkAt dk_X12_act_1 34 rfl) 142 rfl (fun M32 ad hf hag => ?_)
            change G (gc Γ SRV ad lL) X M32 (c18 + 1) (2200 * (c18 + 1)) [some (.ref (wad (gc Γ SRV ad lL) 109)), some (.ref (wad (gc Γ SRV ad lL) 108)), some (.int p1), some (.int p2), some (.int x16)] [.ref (wad (gc Γ SRV ad lL) 210)] 142
            refine x_iload (C.gc krV ad lL) rfl (dkAt dk_X12_act_1 35 rfl) 144 rfl ?_
            obtain ⟨hc, hf⟩ := if_some hf
            refine v_appI (L := [some (.inr 109), some (.inr 108), some (.inl (.int p1)), some (.inl (.int p2)), some (.inl (.int x16))]) (st := []) C hT hag (by decide) hc hf ln_RX12_76 rfl rfl (svV rfl) (svW rfl) (Nat.le_of_ble_eq_true rfl) (dkAt dk_X12_act_1 36 rfl) 147 rfl (fun M33 ad hf hag => ?_)
            change G (gc Γ SRV ad lL) X M33 ((c18 + 1) + 1) (2200 * ((c18 + 1) + 1)) [some (.ref (wad (gc Γ SRV ad lL) 109)), some (.ref (wad (gc Γ SRV ad lL) 108)), some (.int p1), some (.int p2), some (.int x16)] [.ref (wad (gc Γ SRV ad lL) 210)] 147
            refine x_bipush (C.gc krV ad lL) (v := (32 : Int32)) (by decide) (dkAt dk_X12_act_1 37 rfl) 149 rfl ?_
            obtain ⟨hc, hf⟩ := if_some hf
            refine v_appC (L := [some (.inr 109), some (.inr 108), some (.inl (.int p1)), some (.inl (.int p2)), some (.inl (.int x16))]) (st := []) C hT hag (by decide) hc hf ln_RX12_119 rfl rfl (svV rfl) (svW rfl) (Nat.le_of_ble_eq_true rfl) (dkAt dk_X12_act_1 38 rfl) 152 rfl (fun M34 ad hf hag => ?_)
            change G (gc Γ SRV ad lL) X M34 (((c18 + 1) + 1) + 1) (2200 * (((c18 + 1) + 1) + 1)) [some (.ref (wad (gc Γ SRV ad lL) 109)), some (.ref (wad (gc Γ SRV ad lL) 108)), some (.int p1), some (.int p2), some (.int x16)] [.ref (wad (gc Γ SRV ad lL) 210)] 152
            refine x_aload_n (C.gc krV ad lL) rfl rfl (dkAt dk_X12_act_1 39 rfl) 153 rfl ?_
            refine x_getS (C.gc krV ad lL) lk_RX12_37 ((hV hT ad).2.1 109 (18, 17) rfl) ((hV hT ad).2.2.2 109 10 126 rfl) (dkAt dk_X12_act_1 40 rfl) 156 rfl ?_
            refine x_iload_n (C.gc krV ad lL) rfl rfl (dkAt dk_X12_act_1 41 rfl) 157 rfl ?_
            refine x_qald (C.gc krV ad lL) (k9 := 2) (n := 6) (by decide) (by decide) ((hV hT ad).2.1 126 (5, 2006) rfl) (dkAt dk_X12_act_1 42 rfl) 158 rfl hf (fun o35 h_o35 hf => ?_)
            refine x_iload_n (C.gc krV ad lL) rfl rfl (dkAt dk_X12_act_1 43 rfl) 159 rfl ?_
            refine x_qald (C.gc krV ad lL) (k9 := 1) (n := 3) (by decide) (by decide) ((hV hT ad).2.2.1 _ _ h_o35) (dkAt dk_X12_act_1 44 rfl) 160 rfl hf (fun o36 h_o36 hf => ?_)
            refine x_iload (C.gc krV ad lL) rfl (dkAt dk_X12_act_1 45 rfl) 162 rfl ?_
            refine x_iald (C.gc krV ad lL) ((hV hT ad).2.2.1 _ _ h_o36) (dkAt dk_X12_act_1 46 rfl) 163 rfl hf (fun v37 hf => ?_)
            obtain ⟨hc, hf⟩ := if_some hf
            refine v_appI (L := [some (.inr 109), some (.inr 108), some (.inl (.int p1)), some (.inl (.int p2)), some (.inl (.int x16))]) (st := []) C hT hag (by decide) hc hf ln_RX12_76 rfl rfl (svV rfl) (svW rfl) (Nat.le_of_ble_eq_true rfl) (dkAt dk_X12_act_1 47 rfl) 166 rfl (fun M38 ad hf hag => ?_)
            change G (gc Γ SRV ad lL) X M38 ((((c18 + 1) + 1) + 1) + 1) (2200 * ((((c18 + 1) + 1) + 1) + 1)) [some (.ref (wad (gc Γ SRV ad lL) 109)), some (.ref (wad (gc Γ SRV ad lL) 108)), some (.int p1), some (.int p2), some (.int x16)] [.ref (wad (gc Γ SRV ad lL) 210)] 166
            refine x_pop (C.gc krV ad lL) rfl (dkAt dk_X12_act_2 0 rfl) 167 rfl ?_
            exact G.weak (L := [some (.ref (wad (gc Γ SRV ad lL) 109)), some (.ref (wad (gc Γ SRV ad lL) 108)), some (.int p1), some (.int p2), some (.int x16)]) ⟨rfl, rfl, rfl, rfl, rfl, trivial⟩ (hj31 _ hf ad hag)
      · refine x_if_ne (C.gc krV ad lL) 111 (dkAt dk_X12_act_1 14 rfl) 107 rfl (by decide) hf (fun hf => ?_) (fun hf => ?_)
        · refine x_aload_n (C.gc krV ad lL) rfl rfl (dkAt dk_X12_act_1 17 rfl) 112 rfl ?_
          refine x_iconst (C.gc krV ad lL) (v := (1 : Int32)) (by decide) (dkAt dk_X12_act_1 18 rfl) 113 rfl ?_
          refine x_bipush (C.gc krV ad lL) (v := (60 : Int32)) (by decide) (dkAt dk_X12_act_1 19 rfl) 115 rfl ?_
          obtain ⟨hc, hf⟩ := if_some hf
          obtain ⟨v40, M41, h42, hf⟩ := cl_inv hf
          refine x_cVi (C.gc krV ad lL) (c_X13_next (hV hT ad) (hXV hX (hag.b hb)) h42) mw_X13_next ln_RX12_61 mi_X13_next (show RC _ 108 RX13 from ⟨13, 2, _, ((hV hT ad).2.1 108 (19, 2) rfl), rc13, rfl⟩) (ro_c (k := 0) (by decide) (by decide) hc (Nat.zero_le _)) rfl rfl (Nat.le_of_ble_eq_true rfl) (dkAt dk_X12_act_1 20 rfl) 118 rfl _ _ rfl rfl ?_
          change G (gc Γ SRV ad lL) X M41 c18 (2200 * c18) [some (.ref (wad (gc Γ SRV ad lL) 109)), some (.ref (wad (gc Γ SRV ad lL) 108)), some (.int p1), some (.int p2), some (.int x16)] [.int v40, .int x16, .ref (wad (gc Γ SRV ad lL) o21)] 118
          exact G.weak (L := [some (.ref (wad (gc Γ SRV ad lL) 109)), some (.ref (wad (gc Γ SRV ad lL) 108)), some (.int p1), some (.int p2), some (.int x16)]) ⟨rfl, rfl, rfl, rfl, rfl, trivial⟩ (hj39 _ hf ad hag)
        · refine x_iconst (C.gc krV ad lL) (v := (0 : Int32)) (by decide) (dkAt dk_X12_act_1 15 rfl) 108 rfl ?_
          refine x_goto (C.gc krV ad lL) 118 (dkAt dk_X12_act_1 16 rfl) (by decide) ?_
          exact G.weak (L := [some (.ref (wad (gc Γ SRV ad lL) 109)), some (.ref (wad (gc Γ SRV ad lL) 108)), some (.int p1), some (.int p2), some (.int x16)]) ⟨rfl, rfl, rfl, rfl, rfl, trivial⟩ (hj39 _ hf ad hag)
set_option maxRecDepth 100000 in
theorem l_X12_act_L196 {Γ : WC} {X : MX} (hT : HT Γ) {b : Nat} {LX : Nat} {xs : Nat → Int32} (hX : HX0 Γ b LX xs) (C : CX Γ X cX12_act 10 RX12 none (rmL 7 40 (2200 * 40))) {ad0 : Nat → Nat} (hb : ad0 999 = b) {rM : Unit × Mem} (E : EndD Γ SRV X ad0 lL lL none rM.2 40 (2200 * 40)) {Z : Nat} {p1 : Int32} {p2 : Int32} {v46 : Int32} : ∀ (n : Nat) (x49 : Int32) (x50 : Int32) (x51 : Int32) (M52 : Mem) (c53 : Nat), f_X12_act_L196 shL Z LX xs p1 p2 v46 n x49 x50 x51 M52 c53 = some rM → ∀ ad, agr lL ad0 ad → G (gc Γ SRV ad lL) X M52 c53 (2200 * c53) [some (.ref (wad (gc Γ SRV ad lL) 109)), some (.ref (wad (gc Γ SRV ad lL) 108)), some (.int p1), some (.int p2), some (.int x49), some (.int v46), some (.int x50), some (.int x51)] [] 196 := by
  intro n
  induction n with
  | zero =>
    intro x49 x50 x51 M52 c53 hf ad hag
    have hf0 : (none : Option _) = some rM := hf
    cases hf0
  | succ n ih =>
    intro x49 x50 x51 M52 c53 hf ad hag
    rw [f_X12_act_L196] at hf
    refine x_iload (C.gc krV ad lL) rfl (dkAt dk_X12_act_2 17 rfl) 198 rfl ?_
    refine x_aload_n (C.gc krV ad lL) rfl rfl (dkAt dk_X12_act_2 18 rfl) 199 rfl ?_
    refine x_getI (C.gc krV ad lL) lk_RX12_67 ((hV hT ad).2.1 109 (18, 17) rfl) (dkAt dk_X12_act_2 19 rfl) 202 rfl hf (fun v54 hf => ?_)
    refine x_icmp_ge (C.gc krV ad lL) 323 (dkAt dk_X12_act_2 20 rfl) 205 rfl (by decide) hf (fun hf => ?_) (fun hf => ?_)
    · obtain ⟨hc9, hf⟩ := if_some hf
      exact dv_vret C E hag hf hc9 (Nat.mul_le_mul_left _ hc9) (dkAt dk_X12_act_3 36 rfl)
    · refine x_iload (C.gc krV ad lL) rfl (dkAt dk_X12_act_2 21 rfl) 207 rfl ?_
      refine x_if_le (C.gc krV ad lL) 323 (dkAt dk_X12_act_2 22 rfl) 210 rfl (by decide) hf (fun hf => ?_) (fun hf => ?_)
      · obtain ⟨hc9, hf⟩ := if_some hf
        exact dv_vret C E hag hf hc9 (Nat.mul_le_mul_left _ hc9) (dkAt dk_X12_act_3 36 rfl)
      · refine x_iload (C.gc krV ad lL) rfl (dkAt dk_X12_act_2 23 rfl) 212 rfl ?_
        refine x_iload (C.gc krV ad lL) rfl (dkAt dk_X12_act_2 24 rfl) 214 rfl ?_
        refine x_iadd (C.gc krV ad lL) (dkAt dk_X12_act_2 25 rfl) 215 rfl ?_
        refine x_aload_n (C.gc krV ad lL) rfl rfl (dkAt dk_X12_act_2 26 rfl) 216 rfl ?_
        refine x_getI (C.gc krV ad lL) lk_RX12_67 ((hV hT ad).2.1 109 (18, 17) rfl) (dkAt dk_X12_act_2 27 rfl) 219 rfl hf (fun v55 hf => ?_)
        refine x_irem (C.gc krV ad lL) (dkAt dk_X12_act_2 28 rfl) 220 rfl hf (fun hf => ?_)
        refine x_istore (C.gc krV ad lL) (L1 := [some (.ref (wad (gc Γ SRV ad lL) 109)), some (.ref (wad (gc Γ SRV ad lL) 108)), some (.int p1), some (.int p2), some (.int x49), some (.int v46), some (.int x50), some (.int x51), some (.int ((v46 + x51) - (v46 + x51) / v55 * v55))]) (dkAt dk_X12_act_2 29 rfl) 222 rfl (by decide) rfl ?_
        refine x_iload (C.gc krV ad lL) rfl (dkAt dk_X12_act_2 30 rfl) 224 rfl ?_
        refine x_aload_n (C.gc krV ad lL) rfl rfl (dkAt dk_X12_act_2 31 rfl) 225 rfl ?_
        refine x_getI (C.gc krV ad lL) lk_RX12_67 ((hV hT ad).2.1 109 (18, 17) rfl) (dkAt dk_X12_act_2 32 rfl) 228 rfl hf (fun v56 hf => ?_)
        refine x_iconst (C.gc krV ad lL) (v := (1 : Int32)) (by decide) (dkAt dk_X12_act_2 33 rfl) 229 rfl ?_
        refine x_isub (C.gc krV ad lL) (dkAt dk_X12_act_2 34 rfl) 230 rfl ?_
        refine x_join hf (fun t57 => ∀ ad, agr lL ad0 ad → G (gc Γ SRV ad lL) X t57.2 c53 (2200 * c53) [some (.ref (wad (gc Γ SRV ad lL) 109)), some (.ref (wad (gc Γ SRV ad lL) 108)), some (.int p1), some (.int p2), some (.int x49), some (.int v46), some (.int x50), some (.int x51), some (.int ((v46 + x51) - (v46 + x51) / v55 * v55))] [.int t57.1] 254) (fun t57 hf ad hag => ?_) (fun j68 hj68 hf => ?_)
        · refine x_istore (C.gc krV ad lL) (L1 := [some (.ref (wad (gc Γ SRV ad lL) 109)), some (.ref (wad (gc Γ SRV ad lL) 108)), some (.int p1), some (.int p2), some (.int x49), some (.int v46), some (.int x50), some (.int x51), some (.int ((v46 + x51) - (v46 + x51) / v55 * v55)), some (.int t57.1)]) (dkAt dk_X12_act_2 47 rfl) 256 rfl (by decide) rfl ?_
          refine x_aload_n (C.gc krV ad lL) rfl rfl (dkAt dk_X12_act_3 0 rfl) 257 rfl ?_
          refine x_getS (C.gc krV ad lL) lk_RX12_40 ((hV hT ad).2.1 109 (18, 17) rfl) ((hV hT ad).2.2.2 109 11 151 rfl) (dkAt dk_X12_act_3 1 rfl) 260 rfl ?_
          refine x_iload_n (C.gc krV ad lL) rfl rfl (dkAt dk_X12_act_3 2 rfl) 261 rfl ?_
          refine x_qald (C.gc krV ad lL) (k9 := 2) (n := 6) (by decide) (by decide) ((hV hT ad).2.1 151 (5, 2006) rfl) (dkAt dk_X12_act_3 3 rfl) 262 rfl hf (fun o58 h_o58 hf => ?_)
          refine x_iload_n (C.gc krV ad lL) rfl rfl (dkAt dk_X12_act_3 4 rfl) 263 rfl ?_
          refine x_qald (C.gc krV ad lL) (k9 := 1) (n := 3) (by decide) (by decide) ((hV hT ad).2.2.1 _ _ h_o58) (dkAt dk_X12_act_3 5 rfl) 264 rfl hf (fun o59 h_o59 hf => ?_)
          refine x_iload (C.gc krV ad lL) rfl (dkAt dk_X12_act_3 6 rfl) 266 rfl ?_
          refine x_iload (C.gc krV ad lL) rfl (dkAt dk_X12_act_3 7 rfl) 268 rfl ?_
          refine x_iast (C.gc krV ad lL) ((hV hT ad).2.2.1 _ _ h_o59) (dkAt dk_X12_act_3 8 rfl) 269 rfl hf (fun M60 hf => ?_)
          refine x_iload (C.gc krV ad lL) rfl (dkAt dk_X12_act_3 9 rfl) 271 rfl ?_
          refine x_iload (C.gc krV ad lL) rfl (dkAt dk_X12_act_3 10 rfl) 273 rfl ?_
          refine x_isub (C.gc krV ad lL) (dkAt dk_X12_act_3 11 rfl) 274 rfl ?_
          refine x_istore (C.gc krV ad lL) (L1 := [some (.ref (wad (gc Γ SRV ad lL) 109)), some (.ref (wad (gc Γ SRV ad lL) 108)), some (.int p1), some (.int p2), some (.int (x49 - t57.1)), some (.int v46), some (.int x50), some (.int x51), some (.int ((v46 + x51) - (v46 + x51) / v55 * v55)), some (.int t57.1)]) (dkAt dk_X12_act_3 12 rfl) 276 rfl (by decide) rfl ?_
          refine x_aload_n (C.gc krV ad lL) rfl rfl (dkAt dk_X12_act_3 13 rfl) 277 rfl ?_
          refine x_getS (C.gc krV ad lL) lk_RX12_43 ((hV hT ad).2.1 109 (18, 17) rfl) ((hV hT ad).2.2.2 109 12 176 rfl) (dkAt dk_X12_act_3 14 rfl) 280 rfl ?_
          refine x_iload_n (C.gc krV ad lL) rfl rfl (dkAt dk_X12_act_3 15 rfl) 281 rfl ?_
          refine x_qald (C.gc krV ad lL) (k9 := 2) (n := 6) (by decide) (by decide) ((hV hT ad).2.1 176 (5, 2006) rfl) (dkAt dk_X12_act_3 16 rfl) 282 rfl hf (fun o61 h_o61 hf => ?_)
          refine x_iload_n (C.gc krV ad lL) rfl rfl (dkAt dk_X12_act_3 17 rfl) 283 rfl ?_
          refine x_qald (C.gc krV ad lL) (k9 := 1) (n := 3) (by decide) (by decide) ((hV hT ad).2.2.1 _ _ h_o61) (dkAt dk_X12_act_3 18 rfl) 284 rfl hf (fun o62 h_o62 hf => ?_)
          refine x_iload (C.gc krV ad lL) rfl (dkAt dk_X12_act_3 19 rfl) 286 rfl ?_
          refine x_iload (C.gc krV ad lL) rfl (dkAt dk_X12_act_3 20 rfl) 288 rfl ?_
          refine x_iast (C.gc krV ad lL) ((hV hT ad).2.2.1 _ _ h_o62) (dkAt dk_X12_act_3 21 rfl) 289 rfl hf (fun M63 hf => ?_)
          refine x_iinc (C.gc krV ad lL) (v := (x50 + (1 : Int32))) (L1 := [some (.ref (wad (gc Γ SRV ad lL) 109)), some (.ref (wad (gc Γ SRV ad lL) 108)), some (.int p1), some (.int p2), some (.int (x49 - t57.1)), some (.int v46), some (.int (x50 + (1 : Int32))), some (.int x51), some (.int ((v46 + x51) - (v46 + x51) / v55 * v55)), some (.int t57.1)]) (dkAt dk_X12_act_3 22 rfl) 292 rfl rfl rfl (by decide) rfl ?_
          refine x_aload_n (C.gc krV ad lL) rfl rfl (dkAt dk_X12_act_3 23 rfl) 293 rfl ?_
          refine x_getS (C.gc krV ad lL) lk_RX12_14 ((hV hT ad).2.1 109 (18, 17) rfl) ((hV hT ad).2.2.2 109 0 210 rfl) (dkAt dk_X12_act_3 24 rfl) 296 rfl ?_
          refine x_ldcS (C.gc krV ad lL) (hT.2.st (i := 8) rfl) (dkAt dk_X12_act_3 25 rfl) 298 rfl ?_
          obtain ⟨hc, hf⟩ := if_some hf
          refine v_appS (L := [some (.inr 109), some (.inr 108), some (.inl (.int p1)), some (.inl (.int p2)), some (.inl (.int (x49 - t57.1))), some (.inl (.int v46)), some (.inl (.int (x50 + (1 : Int32)))), some (.inl (.int x51)), some (.inl (.int ((v46 + x51) - (v46 + x51) / v55 * v55))), some (.inl (.int t57.1))]) (st := []) C hT hag (by decide) (by decide) hc hf ln_RX12_82 rfl rfl (svV rfl) (svW rfl) (Nat.le_of_ble_eq_true rfl) (dkAt dk_X12_act_3 26 rfl) 301 rfl (fun M64 ad hf hag => ?_)
          change G (gc Γ SRV ad lL) X M64 (c53 + 1) (2200 * (c53 + 1)) [some (.ref (wad (gc Γ SRV ad lL) 109)), some (.ref (wad (gc Γ SRV ad lL) 108)), some (.int p1), some (.int p2), some (.int (x49 - t57.1)), some (.int v46), some (.int (x50 + (1 : Int32))), some (.int x51), some (.int ((v46 + x51) - (v46 + x51) / v55 * v55)), some (.int t57.1)] [.ref (wad (gc Γ SRV ad lL) 210)] 301
          refine x_iload (C.gc krV ad lL) rfl (dkAt dk_X12_act_3 27 rfl) 303 rfl ?_
          obtain ⟨hc, hf⟩ := if_some hf
          refine v_appI (L := [some (.inr 109), some (.inr 108), some (.inl (.int p1)), some (.inl (.int p2)), some (.inl (.int (x49 - t57.1))), some (.inl (.int v46)), some (.inl (.int (x50 + (1 : Int32)))), some (.inl (.int x51)), some (.inl (.int ((v46 + x51) - (v46 + x51) / v55 * v55))), some (.inl (.int t57.1))]) (st := []) C hT hag (by decide) hc hf ln_RX12_76 rfl rfl (svV rfl) (svW rfl) (Nat.le_of_ble_eq_true rfl) (dkAt dk_X12_act_3 28 rfl) 306 rfl (fun M65 ad hf hag => ?_)
          change G (gc Γ SRV ad lL) X M65 ((c53 + 1) + 1) (2200 * ((c53 + 1) + 1)) [some (.ref (wad (gc Γ SRV ad lL) 109)), some (.ref (wad (gc Γ SRV ad lL) 108)), some (.int p1), some (.int p2), some (.int (x49 - t57.1)), some (.int v46), some (.int (x50 + (1 : Int32))), some (.int x51), some (.int ((v46 + x51) - (v46 + x51) / v55 * v55)), some (.int t57.1)] [.ref (wad (gc Γ SRV ad lL) 210)] 306
          refine x_bipush (C.gc krV ad lL) (v := (32 : Int32)) (by decide) (dkAt dk_X12_act_3 29 rfl) 308 rfl ?_
          obtain ⟨hc, hf⟩ := if_some hf
          refine v_appC (L := [some (.inr 109), some (.inr 108), some (.inl (.int p1)), some (.inl (.int p2)), some (.inl (.int (x49 - t57.1))), some (.inl (.int v46)), some (.inl (.int (x50 + (1 : Int32)))), some (.inl (.int x51)), some (.inl (.int ((v46 + x51) - (v46 + x51) / v55 * v55))), some (.inl (.int t57.1))]) (st := []) C hT hag (by decide) hc hf ln_RX12_119 rfl rfl (svV rfl) (svW rfl) (Nat.le_of_ble_eq_true rfl) (dkAt dk_X12_act_3 30 rfl) 311 rfl (fun M66 ad hf hag => ?_)
          change G (gc Γ SRV ad lL) X M66 (((c53 + 1) + 1) + 1) (2200 * (((c53 + 1) + 1) + 1)) [some (.ref (wad (gc Γ SRV ad lL) 109)), some (.ref (wad (gc Γ SRV ad lL) 108)), some (.int p1), some (.int p2), some (.int (x49 - t57.1)), some (.int v46), some (.int (x50 + (1 : Int32))), some (.int x51), some (.int ((v46 + x51) - (v46 + x51) / v55 * v55)), some (.int t57.1)] [.ref (wad (gc Γ SRV ad lL) 210)] 311
          refine x_iload (C.gc krV ad lL) rfl (dkAt dk_X12_act_3 31 rfl) 313 rfl ?_
          obtain ⟨hc, hf⟩ := if_some hf
          refine v_appI (L := [some (.inr 109), some (.inr 108), some (.inl (.int p1)), some (.inl (.int p2)), some (.inl (.int (x49 - t57.1))), some (.inl (.int v46)), some (.inl (.int (x50 + (1 : Int32)))), some (.inl (.int x51)), some (.inl (.int ((v46 + x51) - (v46 + x51) / v55 * v55))), some (.inl (.int t57.1))]) (st := []) C hT hag (by decide) hc hf ln_RX12_76 rfl rfl (svV rfl) (svW rfl) (Nat.le_of_ble_eq_true rfl) (dkAt dk_X12_act_3 32 rfl) 316 rfl (fun M67 ad hf hag => ?_)
          change G (gc Γ SRV ad lL) X M67 ((((c53 + 1) + 1) + 1) + 1) (2200 * ((((c53 + 1) + 1) + 1) + 1)) [some (.ref (wad (gc Γ SRV ad lL) 109)), some (.ref (wad (gc Γ SRV ad lL) 108)), some (.int p1), some (.int p2), some (.int (x49 - t57.1)), some (.int v46), some (.int (x50 + (1 : Int32))), some (.int x51), some (.int ((v46 + x51) - (v46 + x51) / v55 * v55)), some (.int t57.1)] [.ref (wad (gc Γ SRV ad lL) 210)] 316
          refine x_pop (C.gc krV ad lL) rfl (dkAt dk_X12_act_3 33 rfl) 317 rfl ?_
          refine x_iinc (C.gc krV ad lL) (v := (x51 + (1 : Int32))) (L1 := [some (.ref (wad (gc Γ SRV ad lL) 109)), some (.ref (wad (gc Γ SRV ad lL) 108)), some (.int p1), some (.int p2), some (.int (x49 - t57.1)), some (.int v46), some (.int (x50 + (1 : Int32))), some (.int (x51 + (1 : Int32))), some (.int ((v46 + x51) - (v46 + x51) / v55 * v55)), some (.int t57.1)]) (dkAt dk_X12_act_3 34 rfl) 320 rfl rfl rfl (by decide) rfl ?_
          refine x_goto (C.gc krV ad lL) 196 (dkAt dk_X12_act_3 35 rfl) (by decide) ?_
          exact G.weak (L := [some (.ref (wad (gc Γ SRV ad lL) 109)), some (.ref (wad (gc Γ SRV ad lL) 108)), some (.int p1), some (.int p2), some (.int (x49 - t57.1)), some (.int v46), some (.int (x50 + (1 : Int32))), some (.int (x51 + (1 : Int32)))]) ⟨rfl, rfl, rfl, rfl, rfl, rfl, rfl, rfl, trivial⟩ (ih _ _ _ _ _ hf ad hag)
        · refine x_join hf (fun t69 => ∀ ad, agr lL ad0 ad → G (gc Γ SRV ad lL) X t69 c53 (2200 * c53) [some (.ref (wad (gc Γ SRV ad lL) 109)), some (.ref (wad (gc Γ SRV ad lL) 108)), some (.int p1), some (.int p2), some (.int x49), some (.int v46), some (.int x50), some (.int x51), some (.int ((v46 + x51) - (v46 + x51) / v55 * v55))] [] 242) (fun t69 hf ad hag => ?_) (fun j70 hj70 hf => ?_)
          · refine x_iload (C.gc krV ad lL) rfl (dkAt dk_X12_act_2 41 rfl) 244 rfl ?_
            refine x_goto (C.gc krV ad lL) 254 (dkAt dk_X12_act_2 42 rfl) (by decide) ?_
            exact G.weak (L := [some (.ref (wad (gc Γ SRV ad lL) 109)), some (.ref (wad (gc Γ SRV ad lL) 108)), some (.int p1), some (.int p2), some (.int x49), some (.int v46), some (.int x50), some (.int x51), some (.int ((v46 + x51) - (v46 + x51) / v55 * v55))]) ⟨rfl, rfl, rfl, rfl, rfl, rfl, rfl, rfl, rfl, trivial⟩ (hj68 _ hf ad hag)
          · refine x_icmp_eq (C.gc krV ad lL) 242 (dkAt dk_X12_act_2 35 rfl) 233 rfl (by decide) hf (fun hf => ?_) (fun hf => ?_)
            · exact G.weak (L := [some (.ref (wad (gc Γ SRV ad lL) 109)), some (.ref (wad (gc Γ SRV ad lL) 108)), some (.int p1), some (.int p2), some (.int x49), some (.int v46), some (.int x50), some (.int x51), some (.int ((v46 + x51) - (v46 + x51) / v55 * v55))]) ⟨rfl, rfl, rfl, rfl, rfl, rfl, rfl, rfl, rfl, trivial⟩ (hj70 _ hf ad hag)
            · refine x_aload_n (C.gc krV ad lL) rfl rfl (dkAt dk_X12_act_2 36 rfl) 234 rfl ?_
              refine x_iconst (C.gc krV ad lL) (v := (0 : Int32)) (by decide) (dkAt dk_X12_act_2 37 rfl) 235 rfl ?_
              refine x_iconst (C.gc krV ad lL) (v := (2 : Int32)) (by decide) (dkAt dk_X12_act_2 38 rfl) 236 rfl ?_
              obtain ⟨hc, hf⟩ := if_some hf
              obtain ⟨v71, M72, h73, hf⟩ := cl_inv hf
              refine x_cVi (C.gc krV ad lL) (c_X13_next (hV hT ad) (hXV hX (hag.b hb)) h73) mw_X13_next ln_RX12_61 mi_X13_next (show RC _ 108 RX13 from ⟨13, 2, _, ((hV hT ad).2.1 108 (19, 2) rfl), rc13, rfl⟩) (ro_c (k := 0) (by decide) (by decide) hc (Nat.zero_le _)) rfl rfl (Nat.le_of_ble_eq_true rfl) (dkAt dk_X12_act_2 39 rfl) 239 rfl _ _ rfl rfl ?_
              change G (gc Γ SRV ad lL) X M72 c53 (2200 * c53) [some (.ref (wad (gc Γ SRV ad lL) 109)), some (.ref (wad (gc Γ SRV ad lL) 108)), some (.int p1), some (.int p2), some (.int x49), some (.int v46), some (.int x50), some (.int x51), some (.int ((v46 + x51) - (v46 + x51) / v55 * v55))] [.int v71] 239
              refine x_if_ne (C.gc krV ad lL) 247 (dkAt dk_X12_act_2 40 rfl) 242 rfl (by decide) hf (fun hf => ?_) (fun hf => ?_)
              · refine x_aload_n (C.gc krV ad lL) rfl rfl (dkAt dk_X12_act_2 43 rfl) 248 rfl ?_
                refine x_iconst (C.gc krV ad lL) (v := (1 : Int32)) (by decide) (dkAt dk_X12_act_2 44 rfl) 249 rfl ?_
                refine x_iload (C.gc krV ad lL) rfl (dkAt dk_X12_act_2 45 rfl) 251 rfl ?_
                obtain ⟨hc, hf⟩ := if_some hf
                obtain ⟨v74, M75, h76, hf⟩ := cl_inv hf
                refine x_cVi (C.gc krV ad lL) (c_X13_next (hV hT ad) (hXV hX (hag.b hb)) h76) mw_X13_next ln_RX12_61 mi_X13_next (show RC _ 108 RX13 from ⟨13, 2, _, ((hV hT ad).2.1 108 (19, 2) rfl), rc13, rfl⟩) (ro_c (k := 0) (by decide) (by decide) hc (Nat.zero_le _)) rfl rfl (Nat.le_of_ble_eq_true rfl) (dkAt dk_X12_act_2 46 rfl) 254 rfl _ _ rfl rfl ?_
                change G (gc Γ SRV ad lL) X M75 c53 (2200 * c53) [some (.ref (wad (gc Γ SRV ad lL) 109)), some (.ref (wad (gc Γ SRV ad lL) 108)), some (.int p1), some (.int p2), some (.int x49), some (.int v46), some (.int x50), some (.int x51), some (.int ((v46 + x51) - (v46 + x51) / v55 * v55))] [.int v74] 254
                exact G.weak (L := [some (.ref (wad (gc Γ SRV ad lL) 109)), some (.ref (wad (gc Γ SRV ad lL) 108)), some (.int p1), some (.int p2), some (.int x49), some (.int v46), some (.int x50), some (.int x51), some (.int ((v46 + x51) - (v46 + x51) / v55 * v55))]) ⟨rfl, rfl, rfl, rfl, rfl, rfl, rfl, rfl, rfl, trivial⟩ (hj68 _ hf ad hag)
              · exact G.weak (L := [some (.ref (wad (gc Γ SRV ad lL) 109)), some (.ref (wad (gc Γ SRV ad lL) 108)), some (.int p1), some (.int p2), some (.int x49), some (.int v46), some (.int x50), some (.int x51), some (.int ((v46 + x51) - (v46 + x51) / v55 * v55))]) ⟨rfl, rfl, rfl, rfl, rfl, rfl, rfl, rfl, rfl, trivial⟩ (hj70 _ hf ad hag)
set_option maxRecDepth 100000 in
theorem c_X12_act {Γ : WC} (hT : HT Γ) {b : Nat} {LX : Nat} {xs : Nat → Int32} (hX : HX0 Γ b LX xs) {Z : Nat} {M : Mem} {p1 : Int32} {p2 : Int32} {rM : Unit × Mem} (hf : f_X12_act shL Z LX xs M p1 p2 = some rM) : CtX Γ b SRV SRV yX12_act cX12_act 10 none (rmL 7 40 (2200 * 40)) lL lL [.inr 109, .inr 108, .inl (.int p1), .inl (.int p2)] M none rM.2 := by
  refine mkX hT.1 (own := RX12) rfl (by decide) (fun _ => Nat.le_of_ble_eq_true rfl) (fun ad0 X hb C _ E => ?_)
  unfold f_X12_act at hf
  have hag : agr lL ad0 ad0 := agr.rfl
  obtain ⟨ad, had⟩ : ∃ ad, ad = ad0 := ⟨_, rfl⟩
  rw [← had]
  replace hag : agr lL ad0 ad := by rw [had]; exact agr.rfl
  change G (gc Γ SRV ad lL) X M (0) (2200 * (0)) [some (.ref (wad (gc Γ SRV ad lL) 109)), some (.ref (wad (gc Γ SRV ad lL) 108)), some (.int p1), some (.int p2)] [] 0
  refine x_aload_n (C.gc krV ad lL) rfl rfl (dkAt dk_X12_act_0 0 rfl) 1 rfl ?_
  refine x_getS (C.gc krV ad lL) lk_RX12_29 ((hV hT ad).2.1 109 (18, 17) rfl) ((hV hT ad).2.2.2 109 8 112 rfl) (dkAt dk_X12_act_0 1 rfl) 4 rfl ?_
  refine x_iload_n (C.gc krV ad lL) rfl rfl (dkAt dk_X12_act_0 2 rfl) 5 rfl ?_
  refine x_qald (C.gc krV ad lL) (k9 := 1) (n := 6) (by decide) (by decide) ((hV hT ad).2.1 112 (5, 1006) rfl) (dkAt dk_X12_act_0 3 rfl) 6 rfl hf (fun o1 h_o1 hf => ?_)
  refine x_iload_n (C.gc krV ad lL) rfl rfl (dkAt dk_X12_act_0 4 rfl) 7 rfl ?_
  refine x_aload_n (C.gc krV ad lL) rfl rfl (dkAt dk_X12_act_0 5 rfl) 8 rfl ?_
  refine x_iconst (C.gc krV ad lL) (v := (0 : Int32)) (by decide) (dkAt dk_X12_act_0 6 rfl) 9 rfl ?_
  refine x_bipush (C.gc krV ad lL) (v := (60 : Int32)) (by decide) (dkAt dk_X12_act_0 7 rfl) 11 rfl ?_
  obtain ⟨hc, hf⟩ := if_some hf
  obtain ⟨v2, M3, h4, hf⟩ := cl_inv hf
  refine x_cVi (C.gc krV ad lL) (c_X13_next (hV hT ad) (hXV hX (hag.b hb)) h4) mw_X13_next ln_RX12_61 mi_X13_next (show RC _ 108 RX13 from ⟨13, 2, _, ((hV hT ad).2.1 108 (19, 2) rfl), rc13, rfl⟩) (ro_c (k := 0) (by decide) (by decide) hc (Nat.zero_le _)) rfl rfl (Nat.le_of_ble_eq_true rfl) (dkAt dk_X12_act_0 8 rfl) 14 rfl _ _ rfl rfl ?_
  change G (gc Γ SRV ad lL) X M3 (0) (2200 * (0)) [some (.ref (wad (gc Γ SRV ad lL) 109)), some (.ref (wad (gc Γ SRV ad lL) 108)), some (.int p1), some (.int p2)] [.int v2, .int p2, .ref (wad (gc Γ SRV ad lL) o1)] 14
  refine x_bipush (C.gc krV ad lL) (v := (20 : Int32)) (by decide) (dkAt dk_X12_act_0 9 rfl) 16 rfl ?_
  refine x_isub (C.gc krV ad lL) (dkAt dk_X12_act_0 10 rfl) 17 rfl ?_
  refine x_iast (C.gc krV ad lL) ((hV hT ad).2.2.1 _ _ h_o1) (dkAt dk_X12_act_0 11 rfl) 18 rfl hf (fun M5 hf => ?_)
  refine x_aload_n (C.gc krV ad lL) rfl rfl (dkAt dk_X12_act_0 12 rfl) 19 rfl ?_
  refine x_getS (C.gc krV ad lL) lk_RX12_48 ((hV hT ad).2.1 109 (18, 17) rfl) ((hV hT ad).2.2.2 109 13 201 rfl) (dkAt dk_X12_act_0 13 rfl) 22 rfl ?_
  refine x_iload_n (C.gc krV ad lL) rfl rfl (dkAt dk_X12_act_0 14 rfl) 23 rfl ?_
  refine x_qald (C.gc krV ad lL) (k9 := 3) (n := 6) (by decide) (by decide) ((hV hT ad).2.1 201 (5, 3006) rfl) (dkAt dk_X12_act_0 15 rfl) 24 rfl hf (fun o6 h_o6 hf => ?_)
  refine x_iload_n (C.gc krV ad lL) rfl rfl (dkAt dk_X12_act_0 16 rfl) 25 rfl ?_
  refine x_iconst (C.gc krV ad lL) (v := (1 : Int32)) (by decide) (dkAt dk_X12_act_0 17 rfl) 26 rfl ?_
  refine x_zast (C.gc krV ad lL) ((hV hT ad).2.2.1 _ _ h_o6) (dkAt dk_X12_act_0 18 rfl) 27 rfl hf (fun M7 hf => ?_)
  refine x_aload_n (C.gc krV ad lL) rfl rfl (dkAt dk_X12_act_0 19 rfl) 28 rfl ?_
  refine x_getS (C.gc krV ad lL) lk_RX12_14 ((hV hT ad).2.1 109 (18, 17) rfl) ((hV hT ad).2.2.2 109 0 210 rfl) (dkAt dk_X12_act_0 20 rfl) 31 rfl ?_
  refine x_ldcS (C.gc krV ad lL) (hT.2.st (i := 4) rfl) (dkAt dk_X12_act_0 21 rfl) 33 rfl ?_
  obtain ⟨hc, hf⟩ := if_some hf
  refine v_appS (L := [some (.inr 109), some (.inr 108), some (.inl (.int p1)), some (.inl (.int p2))]) (st := []) C hT hag (by decide) (by decide) hc hf ln_RX12_82 rfl rfl (svV rfl) (svW rfl) (Nat.le_of_ble_eq_true rfl) (dkAt dk_X12_act_0 22 rfl) 36 rfl (fun M8 ad hf hag => ?_)
  change G (gc Γ SRV ad lL) X M8 (0 + 1) (2200 * (0 + 1)) [some (.ref (wad (gc Γ SRV ad lL) 109)), some (.ref (wad (gc Γ SRV ad lL) 108)), some (.int p1), some (.int p2)] [.ref (wad (gc Γ SRV ad lL) 210)] 36
  refine x_iload_n (C.gc krV ad lL) rfl rfl (dkAt dk_X12_act_0 23 rfl) 37 rfl ?_
  obtain ⟨hc, hf⟩ := if_some hf
  refine v_appI (L := [some (.inr 109), some (.inr 108), some (.inl (.int p1)), some (.inl (.int p2))]) (st := []) C hT hag (by decide) hc hf ln_RX12_76 rfl rfl (svV rfl) (svW rfl) (Nat.le_of_ble_eq_true rfl) (dkAt dk_X12_act_0 24 rfl) 40 rfl (fun M9 ad hf hag => ?_)
  change G (gc Γ SRV ad lL) X M9 ((0 + 1) + 1) (2200 * ((0 + 1) + 1)) [some (.ref (wad (gc Γ SRV ad lL) 109)), some (.ref (wad (gc Γ SRV ad lL) 108)), some (.int p1), some (.int p2)] [.ref (wad (gc Γ SRV ad lL) 210)] 40
  refine x_aload_n (C.gc krV ad lL) rfl rfl (dkAt dk_X12_act_0 25 rfl) 41 rfl ?_
  refine x_getS (C.gc krV ad lL) lk_RX12_29 ((hV hT ad).2.1 109 (18, 17) rfl) ((hV hT ad).2.2.2 109 8 112 rfl) (dkAt dk_X12_act_0 26 rfl) 44 rfl ?_
  refine x_iload_n (C.gc krV ad lL) rfl rfl (dkAt dk_X12_act_0 27 rfl) 45 rfl ?_
  refine x_qald (C.gc krV ad lL) (k9 := 1) (n := 6) (by decide) (by decide) ((hV hT ad).2.1 112 (5, 1006) rfl) (dkAt dk_X12_act_0 28 rfl) 46 rfl hf (fun o10 h_o10 hf => ?_)
  refine x_iload_n (C.gc krV ad lL) rfl rfl (dkAt dk_X12_act_0 29 rfl) 47 rfl ?_
  refine x_iald (C.gc krV ad lL) ((hV hT ad).2.2.1 _ _ h_o10) (dkAt dk_X12_act_0 30 rfl) 48 rfl hf (fun v11 hf => ?_)
  refine x_join hf (fun t12 => ∀ ad, agr lL ad0 ad → G (gc Γ SRV ad lL) X t12.1 t12.2 (2200 * t12.2) [some (.ref (wad (gc Γ SRV ad lL) 109)), some (.ref (wad (gc Γ SRV ad lL) 108)), some (.int p1), some (.int p2)] [.ref (wad (gc Γ SRV ad lL) 210)] 61) (fun t12 hf ad hag => ?_) (fun j77 hj77 hf => ?_)
  · refine x_aload_n (C.gc krV ad lL) rfl rfl (dkAt dk_X12_act_0 36 rfl) 62 rfl ?_
    refine x_getS (C.gc krV ad lL) lk_RX12_29 ((hV hT ad).2.1 109 (18, 17) rfl) ((hV hT ad).2.2.2 109 8 112 rfl) (dkAt dk_X12_act_0 37 rfl) 65 rfl ?_
    refine x_iload_n (C.gc krV ad lL) rfl rfl (dkAt dk_X12_act_0 38 rfl) 66 rfl ?_
    refine x_qald (C.gc krV ad lL) (k9 := 1) (n := 6) (by decide) (by decide) ((hV hT ad).2.1 112 (5, 1006) rfl) (dkAt dk_X12_act_0 39 rfl) 67 rfl hf (fun o13 h_o13 hf => ?_)
    refine x_iload_n (C.gc krV ad lL) rfl rfl (dkAt dk_X12_act_0 40 rfl) 68 rfl ?_
    refine x_iald (C.gc krV ad lL) ((hV hT ad).2.2.1 _ _ h_o13) (dkAt dk_X12_act_0 41 rfl) 69 rfl hf (fun v14 hf => ?_)
    obtain ⟨hc, hf⟩ := if_some hf
    refine x_absI (C.gc krV ad lL) ln_RX12_111 ⟨by decide, by decide, Nat.le_trans (Nat.le_add_right _ _) hc, Nat.mul_le_mul_left _ (Nat.le_trans (Nat.le_add_right _ _) hc)⟩ (Nat.le_of_ble_eq_true rfl) (dkAt dk_X12_act_0 42 rfl) 72 rfl ?_
    obtain ⟨hc, hf⟩ := if_some hf
    refine v_appI (L := [some (.inr 109), some (.inr 108), some (.inl (.int p1)), some (.inl (.int p2))]) (st := []) C hT hag (by decide) hc hf ln_RX12_76 rfl rfl (svV rfl) (svW rfl) (Nat.le_of_ble_eq_true rfl) (dkAt dk_X12_act_0 43 rfl) 75 rfl (fun M15 ad hf hag => ?_)
    change G (gc Γ SRV ad lL) X M15 (t12.2 + 1) (2200 * (t12.2 + 1)) [some (.ref (wad (gc Γ SRV ad lL) 109)), some (.ref (wad (gc Γ SRV ad lL) 108)), some (.int p1), some (.int p2)] [.ref (wad (gc Γ SRV ad lL) 210)] 75
    refine x_pop (C.gc krV ad lL) rfl (dkAt dk_X12_act_0 44 rfl) 76 rfl ?_
    refine x_iconst (C.gc krV ad lL) (v := (0 : Int32)) (by decide) (dkAt dk_X12_act_0 45 rfl) 77 rfl ?_
    refine x_istore (C.gc krV ad lL) (L1 := [some (.ref (wad (gc Γ SRV ad lL) 109)), some (.ref (wad (gc Γ SRV ad lL) 108)), some (.int p1), some (.int p2), some (.int (0 : Int32))]) (dkAt dk_X12_act_0 46 rfl) 79 rfl (by decide) rfl ?_
    refine G.weak (L := [some (.ref (wad (gc Γ SRV ad lL) 109)), some (.ref (wad (gc Γ SRV ad lL) 108)), some (.int p1), some (.int p2), some (.int (0 : Int32))]) ⟨rfl, rfl, rfl, rfl, rfl, trivial⟩ ?_
    refine l_X12_act_L79 hT hX C hb E ?_ Z _ _ _ hf ad hag
    intro M43 c44 hf ad hag
    refine x_bipush (C.gc krV ad lL) (v := (100 : Int32)) (by decide) (dkAt dk_X12_act_2 3 rfl) 175 rfl ?_
    refine x_istore (C.gc krV ad lL) (L1 := [some (.ref (wad (gc Γ SRV ad lL) 109)), some (.ref (wad (gc Γ SRV ad lL) 108)), some (.int p1), some (.int p2), some (.int (100 : Int32))]) (dkAt dk_X12_act_2 4 rfl) 177 rfl (by decide) rfl ?_
    refine x_aload_n (C.gc krV ad lL) rfl rfl (dkAt dk_X12_act_2 5 rfl) 178 rfl ?_
    refine x_iconst (C.gc krV ad lL) (v := (0 : Int32)) (by decide) (dkAt dk_X12_act_2 6 rfl) 179 rfl ?_
    refine x_aload_n (C.gc krV ad lL) rfl rfl (dkAt dk_X12_act_2 7 rfl) 180 rfl ?_
    refine x_getI (C.gc krV ad lL) lk_RX12_67 ((hV hT ad).2.1 109 (18, 17) rfl) (dkAt dk_X12_act_2 8 rfl) 183 rfl hf (fun v45 hf => ?_)
    refine x_iconst (C.gc krV ad lL) (v := (1 : Int32)) (by decide) (dkAt dk_X12_act_2 9 rfl) 184 rfl ?_
    refine x_isub (C.gc krV ad lL) (dkAt dk_X12_act_2 10 rfl) 185 rfl ?_
    obtain ⟨hc, hf⟩ := if_some hf
    obtain ⟨v46, M47, h48, hf⟩ := cl_inv hf
    refine x_cVi (C.gc krV ad lL) (c_X13_next (hV hT ad) (hXV hX (hag.b hb)) h48) mw_X13_next ln_RX12_61 mi_X13_next (show RC _ 108 RX13 from ⟨13, 2, _, ((hV hT ad).2.1 108 (19, 2) rfl), rc13, rfl⟩) (ro_c (k := 0) (by decide) (by decide) hc (Nat.zero_le _)) rfl rfl (Nat.le_of_ble_eq_true rfl) (dkAt dk_X12_act_2 11 rfl) 188 rfl _ _ rfl rfl ?_
    change G (gc Γ SRV ad lL) X M47 c44 (2200 * c44) [some (.ref (wad (gc Γ SRV ad lL) 109)), some (.ref (wad (gc Γ SRV ad lL) 108)), some (.int p1), some (.int p2), some (.int (100 : Int32))] [.int v46] 188
    refine x_istore (C.gc krV ad lL) (L1 := [some (.ref (wad (gc Γ SRV ad lL) 109)), some (.ref (wad (gc Γ SRV ad lL) 108)), some (.int p1), some (.int p2), some (.int (100 : Int32)), some (.int v46)]) (dkAt dk_X12_act_2 12 rfl) 190 rfl (by decide) rfl ?_
    refine x_iconst (C.gc krV ad lL) (v := (0 : Int32)) (by decide) (dkAt dk_X12_act_2 13 rfl) 191 rfl ?_
    refine x_istore (C.gc krV ad lL) (L1 := [some (.ref (wad (gc Γ SRV ad lL) 109)), some (.ref (wad (gc Γ SRV ad lL) 108)), some (.int p1), some (.int p2), some (.int (100 : Int32)), some (.int v46), some (.int (0 : Int32))]) (dkAt dk_X12_act_2 14 rfl) 193 rfl (by decide) rfl ?_
    refine x_iconst (C.gc krV ad lL) (v := (0 : Int32)) (by decide) (dkAt dk_X12_act_2 15 rfl) 194 rfl ?_
    refine x_istore (C.gc krV ad lL) (L1 := [some (.ref (wad (gc Γ SRV ad lL) 109)), some (.ref (wad (gc Γ SRV ad lL) 108)), some (.int p1), some (.int p2), some (.int (100 : Int32)), some (.int v46), some (.int (0 : Int32)), some (.int (0 : Int32))]) (dkAt dk_X12_act_2 16 rfl) 196 rfl (by decide) rfl ?_
    refine G.weak (L := [some (.ref (wad (gc Γ SRV ad lL) 109)), some (.ref (wad (gc Γ SRV ad lL) 108)), some (.int p1), some (.int p2), some (.int (100 : Int32)), some (.int v46), some (.int (0 : Int32)), some (.int (0 : Int32))]) ⟨rfl, rfl, rfl, rfl, rfl, rfl, rfl, rfl, trivial⟩ ?_
    refine l_X12_act_L196 hT hX C hb E Z _ _ _ _ _ hf ad hag
  · refine x_if_ge (C.gc krV ad lL) 56 (dkAt dk_X12_act_0 31 rfl) 51 rfl (by decide) hf (fun hf => ?_) (fun hf => ?_)
    · refine x_ldcS (C.gc krV ad lL) (hT.2.st (i := 6) rfl) (dkAt dk_X12_act_0 34 rfl) 58 rfl ?_
      obtain ⟨hc, hf⟩ := if_some hf
      refine v_appS (L := [some (.inr 109), some (.inr 108), some (.inl (.int p1)), some (.inl (.int p2))]) (st := []) C hT hag (by decide) (by decide) hc hf ln_RX12_82 rfl rfl (svV rfl) (svW rfl) (Nat.le_of_ble_eq_true rfl) (dkAt dk_X12_act_0 35 rfl) 61 rfl (fun M78 ad hf hag => ?_)
      change G (gc Γ SRV ad lL) X M78 (((0 + 1) + 1) + 1) (2200 * (((0 + 1) + 1) + 1)) [some (.ref (wad (gc Γ SRV ad lL) 109)), some (.ref (wad (gc Γ SRV ad lL) 108)), some (.int p1), some (.int p2)] [.ref (wad (gc Γ SRV ad lL) 210)] 61
      exact G.weak (L := [some (.ref (wad (gc Γ SRV ad lL) 109)), some (.ref (wad (gc Γ SRV ad lL) 108)), some (.int p1), some (.int p2)]) ⟨rfl, rfl, rfl, rfl, trivial⟩ (hj77 _ hf ad hag)
    · refine x_ldcS (C.gc krV ad lL) (hT.2.st (i := 5) rfl) (dkAt dk_X12_act_0 32 rfl) 53 rfl ?_
      refine x_goto (C.gc krV ad lL) 58 (dkAt dk_X12_act_0 33 rfl) (by decide) ?_
      obtain ⟨hc, hf⟩ := if_some hf
      refine v_appS (L := [some (.inr 109), some (.inr 108), some (.inl (.int p1)), some (.inl (.int p2))]) (st := []) C hT hag (by decide) (by decide) hc hf ln_RX12_82 rfl rfl (svV rfl) (svW rfl) (Nat.le_of_ble_eq_true rfl) (dkAt dk_X12_act_0 35 rfl) 61 rfl (fun M79 ad hf hag => ?_)
      change G (gc Γ SRV ad lL) X M79 (((0 + 1) + 1) + 1) (2200 * (((0 + 1) + 1) + 1)) [some (.ref (wad (gc Γ SRV ad lL) 109)), some (.ref (wad (gc Γ SRV ad lL) 108)), some (.int p1), some (.int p2)] [.ref (wad (gc Γ SRV ad lL) 210)] 61
      exact G.weak (L := [some (.ref (wad (gc Γ SRV ad lL) 109)), some (.ref (wad (gc Γ SRV ad lL) 108)), some (.int p1), some (.int p2)]) ⟨rfl, rfl, rfl, rfl, trivial⟩ (hj77 _ hf ad hag)
noncomputable def f_X12_rule_L22 (sh : Nat → Option SE) (Z : Nat) (LX : Nat) (xs : Nat → Int32) (p1 : Int32) (k : Mem → Option (Unit × Mem)) : Nat → Int32 → Mem → Option (Unit × Mem)
  | 0, _, _ => none
  | n + 1, x6, M7 => rdI M7 111 6 p1 (fun v8 => (if v8 ≤ (x6 + (1 : Int32)) then k M7 else rdQ M7 119 6 p1 sh (0, 3) (fun o9 => rdQ M7 119 6 p1 sh (0, 3) (fun o10 => rdI M7 o10 3 x6 (fun v11 => (if 0 + 0 ≤ 10 then cl (f_X13_next LX xs M7 (0 : Int32) v11) (fun v12 M13 => wrI M13 o9 3 (x6 + (1 : Int32)) v12 (fun M15 => rdQ M15 119 6 p1 sh (0, 3) (fun o16 => rdI M15 o16 3 x6 (fun v17 => rdQ M15 119 6 p1 sh (0, 3) (fun o18 => rdI M15 o18 3 (x6 + (1 : Int32)) (fun v19 => wrI M15 o16 3 x6 (v17 - v19) (fun M20 => f_X12_rule_L22 sh Z LX xs p1 k n (x6 + (1 : Int32)) M20))))))) else none))))))
noncomputable def f_X12_rule_L100 (sh : Nat → Option SE) (Z : Nat) (LX : Nat) (xs : Nat → Int32) (p1 : Int32) : Nat → Int32 → Mem → Nat → Option (Unit × Mem)
  | 0, _, _, _ => none
  | n + 1, x24, M25, c26 => rdI M25 111 6 p1 (fun v27 => (if v27 ≤ x24 then (if c26 ≤ 10 then some ((), M25) else none) else (if c26 + 1 ≤ 10 then apK M25 [32] (fun M28 => rdQ M28 119 6 p1 sh (0, 3) (fun o29 => rdI M28 o29 3 x24 (fun v30 => (if (c26 + 1) + 1 ≤ 10 then apI M28 v30 (fun M31 => f_X12_rule_L100 sh Z LX xs p1 n (x24 + (1 : Int32)) M31 ((c26 + 1) + 1)) else none)))) else none)))
noncomputable def f_X12_rule (sh : Nat → Option SE) (Z : Nat) (LX : Nat) (xs : Nat → Int32) (M : Mem) (p1 : Int32) : Option (Unit × Mem) :=
  rdQ M 119 6 p1 sh (0, 3) (fun o1 => wrI M o1 3 (0 : Int32) (10 : Int32) (fun M2 => (if 0 + 0 ≤ 10 then cl (f_X13_next LX xs M2 (0 : Int32) (2 : Int32)) (fun v3 M4 => (if v3 = 0 then (if 0 ≤ 10 then some ((), M4) else none) else f_X12_rule_L22 sh Z LX xs p1 (fun (M21 : Mem) => (if 0 + 1 ≤ 10 then apK M21 (WL.getD 19 []) (fun M22 => (if (0 + 1) + 1 ≤ 10 then apI M22 p1 (fun M23 => f_X12_rule_L100 sh Z LX xs p1 Z (0 : Int32) M23 ((0 + 1) + 1)) else none)) else none)) Z (0 : Int32) M4)) else none)))
set_option maxRecDepth 100000 in
theorem l_X12_rule_L22 {Γ : WC} {X : MX} (hT : HT Γ) {b : Nat} {LX : Nat} {xs : Nat → Int32} (hX : HX0 Γ b LX xs) (C : CX Γ X cX12_rule 4 RX12 none (rmL 7 10 (2200 * 10))) {ad0 : Nat → Nat} (hb : ad0 999 = b) {rM : Unit × Mem} (E : EndD Γ SRV X ad0 lL lL none rM.2 10 (2200 * 10)) {Z : Nat} {p1 : Int32} {k : Mem → Option (Unit × Mem)} (hk : ∀  (Mx : Mem), k Mx = some rM → ∀ ad, agr lL ad0 ad → G (gc Γ SRV ad lL) X Mx (0) (2200 * (0)) [some (.ref (wad (gc Γ SRV ad lL) 109)), none, some (.int p1)] [] 84) : ∀ (n : Nat) (x6 : Int32) (M7 : Mem), f_X12_rule_L22 shL Z LX xs p1 k n x6 M7 = some rM → ∀ ad, agr lL ad0 ad → G (gc Γ SRV ad lL) X M7 (0) (2200 * (0)) [some (.ref (wad (gc Γ SRV ad lL) 109)), some (.ref (wad (gc Γ SRV ad lL) 108)), some (.int p1), some (.int x6)] [] 22 := by
  intro n
  induction n with
  | zero =>
    intro x6 M7 hf ad hag
    have hf0 : (none : Option _) = some rM := hf
    cases hf0
  | succ n ih =>
    intro x6 M7 hf ad hag
    rw [f_X12_rule_L22] at hf
    refine x_iload_n (C.gc krV ad lL) rfl rfl (dkAt dk_X12_rule 15 rfl) 23 rfl ?_
    refine x_iconst (C.gc krV ad lL) (v := (1 : Int32)) (by decide) (dkAt dk_X12_rule 16 rfl) 24 rfl ?_
    refine x_iadd (C.gc krV ad lL) (dkAt dk_X12_rule 17 rfl) 25 rfl ?_
    refine x_aload_n (C.gc krV ad lL) rfl rfl (dkAt dk_X12_rule 18 rfl) 26 rfl ?_
    refine x_getS (C.gc krV ad lL) lk_RX12_24 ((hV hT ad).2.1 109 (18, 17) rfl) ((hV hT ad).2.2.2 109 7 111 rfl) (dkAt dk_X12_rule 19 rfl) 29 rfl ?_
    refine x_iload_n (C.gc krV ad lL) rfl rfl (dkAt dk_X12_rule 20 rfl) 30 rfl ?_
    refine x_iald (C.gc krV ad lL) ((hV hT ad).2.1 111 (0, 6) rfl) (dkAt dk_X12_rule 21 rfl) 31 rfl hf (fun v8 hf => ?_)
    refine x_icmp_ge (C.gc krV ad lL) 84 (dkAt dk_X12_rule 22 rfl) 34 rfl (by decide) hf (fun hf => ?_) (fun hf => ?_)
    · exact G.weak (L := [some (.ref (wad (gc Γ SRV ad lL) 109)), none, some (.int p1)]) ⟨rfl, rfl, trivial⟩ (hk _ hf ad hag)
    · refine x_aload_n (C.gc krV ad lL) rfl rfl (dkAt dk_X12_rule 23 rfl) 35 rfl ?_
      refine x_getS (C.gc krV ad lL) lk_RX12_32 ((hV hT ad).2.1 109 (18, 17) rfl) ((hV hT ad).2.2.2 109 9 119 rfl) (dkAt dk_X12_rule 24 rfl) 38 rfl ?_
      refine x_iload_n (C.gc krV ad lL) rfl rfl (dkAt dk_X12_rule 25 rfl) 39 rfl ?_
      refine x_qald (C.gc krV ad lL) (k9 := 1) (n := 6) (by decide) (by decide) ((hV hT ad).2.1 119 (5, 1006) rfl) (dkAt dk_X12_rule 26 rfl) 40 rfl hf (fun o9 h_o9 hf => ?_)
      refine x_iload_n (C.gc krV ad lL) rfl rfl (dkAt dk_X12_rule 27 rfl) 41 rfl ?_
      refine x_iconst (C.gc krV ad lL) (v := (1 : Int32)) (by decide) (dkAt dk_X12_rule 28 rfl) 42 rfl ?_
      refine x_iadd (C.gc krV ad lL) (dkAt dk_X12_rule 29 rfl) 43 rfl ?_
      refine x_aload_n (C.gc krV ad lL) rfl rfl (dkAt dk_X12_rule 30 rfl) 44 rfl ?_
      refine x_iconst (C.gc krV ad lL) (v := (0 : Int32)) (by decide) (dkAt dk_X12_rule 31 rfl) 45 rfl ?_
      refine x_aload_n (C.gc krV ad lL) rfl rfl (dkAt dk_X12_rule 32 rfl) 46 rfl ?_
      refine x_getS (C.gc krV ad lL) lk_RX12_32 ((hV hT ad).2.1 109 (18, 17) rfl) ((hV hT ad).2.2.2 109 9 119 rfl) (dkAt dk_X12_rule 33 rfl) 49 rfl ?_
      refine x_iload_n (C.gc krV ad lL) rfl rfl (dkAt dk_X12_rule 34 rfl) 50 rfl ?_
      refine x_qald (C.gc krV ad lL) (k9 := 1) (n := 6) (by decide) (by decide) ((hV hT ad).2.1 119 (5, 1006) rfl) (dkAt dk_X12_rule 35 rfl) 51 rfl hf (fun o10 h_o10 hf => ?_)
      refine x_iload_n (C.gc krV ad lL) rfl rfl (dkAt dk_X12_rule 36 rfl) 52 rfl ?_
      refine x_iald (C.gc krV ad lL) ((hV hT ad).2.2.1 _ _ h_o10) (dkAt dk_X12_rule 37 rfl) 53 rfl hf (fun v11 hf => ?_)
      obtain ⟨hc, hf⟩ := if_some hf
      obtain ⟨v12, M13, h14, hf⟩ := cl_inv hf
      refine x_cVi (C.gc krV ad lL) (c_X13_next (hV hT ad) (hXV hX (hag.b hb)) h14) mw_X13_next ln_RX12_61 mi_X13_next (show RC _ 108 RX13 from ⟨13, 2, _, ((hV hT ad).2.1 108 (19, 2) rfl), rc13, rfl⟩) (ro_c (k := 0) (by decide) (by decide) hc (Nat.zero_le _)) rfl rfl (Nat.le_of_ble_eq_true rfl) (dkAt dk_X12_rule 38 rfl) 56 rfl _ _ rfl rfl ?_
      change G (gc Γ SRV ad lL) X M13 (0) (2200 * (0)) [some (.ref (wad (gc Γ SRV ad lL) 109)), some (.ref (wad (gc Γ SRV ad lL) 108)), some (.int p1), some (.int x6)] [.int v12, .int (x6 + (1 : Int32)), .ref (wad (gc Γ SRV ad lL) o9)] 56
      refine x_iast (C.gc krV ad lL) ((hV hT ad).2.2.1 _ _ h_o9) (dkAt dk_X12_rule 39 rfl) 57 rfl hf (fun M15 hf => ?_)
      refine x_aload_n (C.gc krV ad lL) rfl rfl (dkAt dk_X12_rule 40 rfl) 58 rfl ?_
      refine x_getS (C.gc krV ad lL) lk_RX12_32 ((hV hT ad).2.1 109 (18, 17) rfl) ((hV hT ad).2.2.2 109 9 119 rfl) (dkAt dk_X12_rule 41 rfl) 61 rfl ?_
      refine x_iload_n (C.gc krV ad lL) rfl rfl (dkAt dk_X12_rule 42 rfl) 62 rfl ?_
      refine x_qald (C.gc krV ad lL) (k9 := 1) (n := 6) (by decide) (by decide) ((hV hT ad).2.1 119 (5, 1006) rfl) (dkAt dk_X12_rule 43 rfl) 63 rfl hf (fun o16 h_o16 hf => ?_)
      refine x_iload_n (C.gc krV ad lL) rfl rfl (dkAt dk_X12_rule 44 rfl) 64 rfl ?_
      refine x_dup2 (C.gc krV ad lL) rfl rfl (dkAt dk_X12_rule 45 rfl) 65 rfl ?_
      refine x_iald (C.gc krV ad lL) ((hV hT ad).2.2.1 _ _ h_o16) (dkAt dk_X12_rule 46 rfl) 66 rfl hf (fun v17 hf => ?_)
      refine x_aload_n (C.gc krV ad lL) rfl rfl (dkAt dk_X12_rule 47 rfl) 67 rfl ?_
      refine x_getS (C.gc krV ad lL) lk_RX12_32 ((hV hT ad).2.1 109 (18, 17) rfl) ((hV hT ad).2.2.2 109 9 119 rfl) (dkAt dk_X12_rule 48 rfl) 70 rfl ?_
      refine x_iload_n (C.gc krV ad lL) rfl rfl (dkAt dk_X12_rule 49 rfl) 71 rfl ?_
      refine x_qald (C.gc krV ad lL) (k9 := 1) (n := 6) (by decide) (by decide) ((hV hT ad).2.1 119 (5, 1006) rfl) (dkAt dk_X12_rule 50 rfl) 72 rfl hf (fun o18 h_o18 hf => ?_)
      refine x_iload_n (C.gc krV ad lL) rfl rfl (dkAt dk_X12_rule 51 rfl) 73 rfl ?_
      refine x_iconst (C.gc krV ad lL) (v := (1 : Int32)) (by decide) (dkAt dk_X12_rule 52 rfl) 74 rfl ?_
      refine x_iadd (C.gc krV ad lL) (dkAt dk_X12_rule 53 rfl) 75 rfl ?_
      refine x_iald (C.gc krV ad lL) ((hV hT ad).2.2.1 _ _ h_o18) (dkAt dk_X12_rule 54 rfl) 76 rfl hf (fun v19 hf => ?_)
      refine x_isub (C.gc krV ad lL) (dkAt dk_X12_rule 55 rfl) 77 rfl ?_
      refine x_iast (C.gc krV ad lL) ((hV hT ad).2.2.1 _ _ h_o16) (dkAt dk_X12_rule 56 rfl) 78 rfl hf (fun M20 hf => ?_)
      refine x_iinc (C.gc krV ad lL) (v := (x6 + (1 : Int32))) (L1 := [some (.ref (wad (gc Γ SRV ad lL) 109)), some (.ref (wad (gc Γ SRV ad lL) 108)), some (.int p1), some (.int (x6 + (1 : Int32)))]) (dkAt dk_X12_rule 57 rfl) 81 rfl rfl rfl (by decide) rfl ?_
      refine x_goto (C.gc krV ad lL) 22 (dkAt dk_X12_rule 58 rfl) (by decide) ?_
      exact G.weak (L := [some (.ref (wad (gc Γ SRV ad lL) 109)), some (.ref (wad (gc Γ SRV ad lL) 108)), some (.int p1), some (.int (x6 + (1 : Int32)))]) ⟨rfl, rfl, rfl, rfl, trivial⟩ (ih _ _ hf ad hag)
set_option maxRecDepth 100000 in
theorem l_X12_rule_L100 {Γ : WC} {X : MX} (hT : HT Γ) {b : Nat} {LX : Nat} {xs : Nat → Int32} (hX : HX0 Γ b LX xs) (C : CX Γ X cX12_rule 4 RX12 none (rmL 7 10 (2200 * 10))) {ad0 : Nat → Nat} (hb : ad0 999 = b) {rM : Unit × Mem} (E : EndD Γ SRV X ad0 lL lL none rM.2 10 (2200 * 10)) {Z : Nat} {p1 : Int32} : ∀ (n : Nat) (x24 : Int32) (M25 : Mem) (c26 : Nat), f_X12_rule_L100 shL Z LX xs p1 n x24 M25 c26 = some rM → ∀ ad, agr lL ad0 ad → G (gc Γ SRV ad lL) X M25 c26 (2200 * c26) [some (.ref (wad (gc Γ SRV ad lL) 109)), none, some (.int p1), some (.int x24)] [] 100 := by
  intro n
  induction n with
  | zero =>
    intro x24 M25 c26 hf ad hag
    have hf0 : (none : Option _) = some rM := hf
    cases hf0
  | succ n ih =>
    intro x24 M25 c26 hf ad hag
    rw [f_X12_rule_L100] at hf
    refine x_iload_n (C.gc krV ad lL) rfl rfl (dkAt dk_X12_rule 68 rfl) 101 rfl ?_
    refine x_aload_n (C.gc krV ad lL) rfl rfl (dkAt dk_X12_rule 69 rfl) 102 rfl ?_
    refine x_getS (C.gc krV ad lL) lk_RX12_24 ((hV hT ad).2.1 109 (18, 17) rfl) ((hV hT ad).2.2.2 109 7 111 rfl) (dkAt dk_X12_rule 70 rfl) 105 rfl ?_
    refine x_iload_n (C.gc krV ad lL) rfl rfl (dkAt dk_X12_rule 71 rfl) 106 rfl ?_
    refine x_iald (C.gc krV ad lL) ((hV hT ad).2.1 111 (0, 6) rfl) (dkAt dk_X12_rule 72 rfl) 107 rfl hf (fun v27 hf => ?_)
    refine x_icmp_ge (C.gc krV ad lL) 137 (dkAt dk_X12_rule 73 rfl) 110 rfl (by decide) hf (fun hf => ?_) (fun hf => ?_)
    · obtain ⟨hc9, hf⟩ := if_some hf
      exact dv_vret C E hag hf hc9 (Nat.mul_le_mul_left _ hc9) (dkAt dk_X12_rule 88 rfl)
    · refine x_aload_n (C.gc krV ad lL) rfl rfl (dkAt dk_X12_rule 74 rfl) 111 rfl ?_
      refine x_getS (C.gc krV ad lL) lk_RX12_14 ((hV hT ad).2.1 109 (18, 17) rfl) ((hV hT ad).2.2.2 109 0 210 rfl) (dkAt dk_X12_rule 75 rfl) 114 rfl ?_
      refine x_bipush (C.gc krV ad lL) (v := (32 : Int32)) (by decide) (dkAt dk_X12_rule 76 rfl) 116 rfl ?_
      obtain ⟨hc, hf⟩ := if_some hf
      refine v_appC (L := [some (.inr 109), none, some (.inl (.int p1)), some (.inl (.int x24))]) (st := []) C hT hag (by decide) hc hf ln_RX12_119 rfl rfl (svV rfl) (svW rfl) (Nat.le_of_ble_eq_true rfl) (dkAt dk_X12_rule 77 rfl) 119 rfl (fun M28 ad hf hag => ?_)
      change G (gc Γ SRV ad lL) X M28 (c26 + 1) (2200 * (c26 + 1)) [some (.ref (wad (gc Γ SRV ad lL) 109)), none, some (.int p1), some (.int x24)] [.ref (wad (gc Γ SRV ad lL) 210)] 119
      refine x_aload_n (C.gc krV ad lL) rfl rfl (dkAt dk_X12_rule 78 rfl) 120 rfl ?_
      refine x_getS (C.gc krV ad lL) lk_RX12_32 ((hV hT ad).2.1 109 (18, 17) rfl) ((hV hT ad).2.2.2 109 9 119 rfl) (dkAt dk_X12_rule 79 rfl) 123 rfl ?_
      refine x_iload_n (C.gc krV ad lL) rfl rfl (dkAt dk_X12_rule 80 rfl) 124 rfl ?_
      refine x_qald (C.gc krV ad lL) (k9 := 1) (n := 6) (by decide) (by decide) ((hV hT ad).2.1 119 (5, 1006) rfl) (dkAt dk_X12_rule 81 rfl) 125 rfl hf (fun o29 h_o29 hf => ?_)
      refine x_iload_n (C.gc krV ad lL) rfl rfl (dkAt dk_X12_rule 82 rfl) 126 rfl ?_
      refine x_iald (C.gc krV ad lL) ((hV hT ad).2.2.1 _ _ h_o29) (dkAt dk_X12_rule 83 rfl) 127 rfl hf (fun v30 hf => ?_)
      obtain ⟨hc, hf⟩ := if_some hf
      refine v_appI (L := [some (.inr 109), none, some (.inl (.int p1)), some (.inl (.int x24))]) (st := []) C hT hag (by decide) hc hf ln_RX12_76 rfl rfl (svV rfl) (svW rfl) (Nat.le_of_ble_eq_true rfl) (dkAt dk_X12_rule 84 rfl) 130 rfl (fun M31 ad hf hag => ?_)
      change G (gc Γ SRV ad lL) X M31 ((c26 + 1) + 1) (2200 * ((c26 + 1) + 1)) [some (.ref (wad (gc Γ SRV ad lL) 109)), none, some (.int p1), some (.int x24)] [.ref (wad (gc Γ SRV ad lL) 210)] 130
      refine x_pop (C.gc krV ad lL) rfl (dkAt dk_X12_rule 85 rfl) 131 rfl ?_
      refine x_iinc (C.gc krV ad lL) (v := (x24 + (1 : Int32))) (L1 := [some (.ref (wad (gc Γ SRV ad lL) 109)), none, some (.int p1), some (.int (x24 + (1 : Int32)))]) (dkAt dk_X12_rule 86 rfl) 134 rfl rfl rfl (by decide) rfl ?_
      refine x_goto (C.gc krV ad lL) 100 (dkAt dk_X12_rule 87 rfl) (by decide) ?_
      exact G.weak (L := [some (.ref (wad (gc Γ SRV ad lL) 109)), none, some (.int p1), some (.int (x24 + (1 : Int32)))]) ⟨rfl, rfl, rfl, trivial⟩ (ih _ _ _ hf ad hag)
set_option maxRecDepth 100000 in
theorem c_X12_rule {Γ : WC} (hT : HT Γ) {b : Nat} {LX : Nat} {xs : Nat → Int32} (hX : HX0 Γ b LX xs) {Z : Nat} {M : Mem} {p1 : Int32} {rM : Unit × Mem} (hf : f_X12_rule shL Z LX xs M p1 = some rM) : CtX Γ b SRV SRV yX12_rule cX12_rule 4 none (rmL 7 10 (2200 * 10)) lL lL [.inr 109, .inr 108, .inl (.int p1)] M none rM.2 := by
  refine mkX hT.1 (own := RX12) rfl (by decide) (fun _ => Nat.le_of_ble_eq_true rfl) (fun ad0 X hb C _ E => ?_)
  unfold f_X12_rule at hf
  have hag : agr lL ad0 ad0 := agr.rfl
  obtain ⟨ad, had⟩ : ∃ ad, ad = ad0 := ⟨_, rfl⟩
  rw [← had]
  replace hag : agr lL ad0 ad := by rw [had]; exact agr.rfl
  change G (gc Γ SRV ad lL) X M (0) (2200 * (0)) [some (.ref (wad (gc Γ SRV ad lL) 109)), some (.ref (wad (gc Γ SRV ad lL) 108)), some (.int p1)] [] 0
  refine x_aload_n (C.gc krV ad lL) rfl rfl (dkAt dk_X12_rule 0 rfl) 1 rfl ?_
  refine x_getS (C.gc krV ad lL) lk_RX12_32 ((hV hT ad).2.1 109 (18, 17) rfl) ((hV hT ad).2.2.2 109 9 119 rfl) (dkAt dk_X12_rule 1 rfl) 4 rfl ?_
  refine x_iload_n (C.gc krV ad lL) rfl rfl (dkAt dk_X12_rule 2 rfl) 5 rfl ?_
  refine x_qald (C.gc krV ad lL) (k9 := 1) (n := 6) (by decide) (by decide) ((hV hT ad).2.1 119 (5, 1006) rfl) (dkAt dk_X12_rule 3 rfl) 6 rfl hf (fun o1 h_o1 hf => ?_)
  refine x_iconst (C.gc krV ad lL) (v := (0 : Int32)) (by decide) (dkAt dk_X12_rule 4 rfl) 7 rfl ?_
  refine x_bipush (C.gc krV ad lL) (v := (10 : Int32)) (by decide) (dkAt dk_X12_rule 5 rfl) 9 rfl ?_
  refine x_iast (C.gc krV ad lL) ((hV hT ad).2.2.1 _ _ h_o1) (dkAt dk_X12_rule 6 rfl) 10 rfl hf (fun M2 hf => ?_)
  refine x_aload_n (C.gc krV ad lL) rfl rfl (dkAt dk_X12_rule 7 rfl) 11 rfl ?_
  refine x_iconst (C.gc krV ad lL) (v := (0 : Int32)) (by decide) (dkAt dk_X12_rule 8 rfl) 12 rfl ?_
  refine x_iconst (C.gc krV ad lL) (v := (2 : Int32)) (by decide) (dkAt dk_X12_rule 9 rfl) 13 rfl ?_
  obtain ⟨hc, hf⟩ := if_some hf
  obtain ⟨v3, M4, h5, hf⟩ := cl_inv hf
  refine x_cVi (C.gc krV ad lL) (c_X13_next (hV hT ad) (hXV hX (hag.b hb)) h5) mw_X13_next ln_RX12_61 mi_X13_next (show RC _ 108 RX13 from ⟨13, 2, _, ((hV hT ad).2.1 108 (19, 2) rfl), rc13, rfl⟩) (ro_c (k := 0) (by decide) (by decide) hc (Nat.zero_le _)) rfl rfl (Nat.le_of_ble_eq_true rfl) (dkAt dk_X12_rule 10 rfl) 16 rfl _ _ rfl rfl ?_
  change G (gc Γ SRV ad lL) X M4 (0) (2200 * (0)) [some (.ref (wad (gc Γ SRV ad lL) 109)), some (.ref (wad (gc Γ SRV ad lL) 108)), some (.int p1)] [.int v3] 16
  refine x_if_ne (C.gc krV ad lL) 20 (dkAt dk_X12_rule 11 rfl) 19 rfl (by decide) hf (fun hf => ?_) (fun hf => ?_)
  · refine x_iconst (C.gc krV ad lL) (v := (0 : Int32)) (by decide) (dkAt dk_X12_rule 13 rfl) 21 rfl ?_
    refine x_istore_n (C.gc krV ad lL) (L1 := [some (.ref (wad (gc Γ SRV ad lL) 109)), some (.ref (wad (gc Γ SRV ad lL) 108)), some (.int p1), some (.int (0 : Int32))]) (dkAt dk_X12_rule 14 rfl) 22 rfl rfl (by decide) rfl ?_
    refine G.weak (L := [some (.ref (wad (gc Γ SRV ad lL) 109)), some (.ref (wad (gc Γ SRV ad lL) 108)), some (.int p1), some (.int (0 : Int32))]) ⟨rfl, rfl, rfl, rfl, trivial⟩ ?_
    refine l_X12_rule_L22 hT hX C hb E ?_ Z _ _ hf ad hag
    intro M21 hf ad hag
    refine x_aload_n (C.gc krV ad lL) rfl rfl (dkAt dk_X12_rule 59 rfl) 85 rfl ?_
    refine x_getS (C.gc krV ad lL) lk_RX12_14 ((hV hT ad).2.1 109 (18, 17) rfl) ((hV hT ad).2.2.2 109 0 210 rfl) (dkAt dk_X12_rule 60 rfl) 88 rfl ?_
    refine x_ldcS (C.gc krV ad lL) (hT.2.st (i := 9) rfl) (dkAt dk_X12_rule 61 rfl) 90 rfl ?_
    obtain ⟨hc, hf⟩ := if_some hf
    refine v_appS (L := [some (.inr 109), none, some (.inl (.int p1))]) (st := []) C hT hag (by decide) (by decide) hc hf ln_RX12_82 rfl rfl (svV rfl) (svW rfl) (Nat.le_of_ble_eq_true rfl) (dkAt dk_X12_rule 62 rfl) 93 rfl (fun M22 ad hf hag => ?_)
    change G (gc Γ SRV ad lL) X M22 (0 + 1) (2200 * (0 + 1)) [some (.ref (wad (gc Γ SRV ad lL) 109)), none, some (.int p1)] [.ref (wad (gc Γ SRV ad lL) 210)] 93
    refine x_iload_n (C.gc krV ad lL) rfl rfl (dkAt dk_X12_rule 63 rfl) 94 rfl ?_
    obtain ⟨hc, hf⟩ := if_some hf
    refine v_appI (L := [some (.inr 109), none, some (.inl (.int p1))]) (st := []) C hT hag (by decide) hc hf ln_RX12_76 rfl rfl (svV rfl) (svW rfl) (Nat.le_of_ble_eq_true rfl) (dkAt dk_X12_rule 64 rfl) 97 rfl (fun M23 ad hf hag => ?_)
    change G (gc Γ SRV ad lL) X M23 ((0 + 1) + 1) (2200 * ((0 + 1) + 1)) [some (.ref (wad (gc Γ SRV ad lL) 109)), none, some (.int p1)] [.ref (wad (gc Γ SRV ad lL) 210)] 97
    refine x_pop (C.gc krV ad lL) rfl (dkAt dk_X12_rule 65 rfl) 98 rfl ?_
    refine x_iconst (C.gc krV ad lL) (v := (0 : Int32)) (by decide) (dkAt dk_X12_rule 66 rfl) 99 rfl ?_
    refine x_istore_n (C.gc krV ad lL) (L1 := [some (.ref (wad (gc Γ SRV ad lL) 109)), none, some (.int p1), some (.int (0 : Int32))]) (dkAt dk_X12_rule 67 rfl) 100 rfl rfl (by decide) rfl ?_
    refine G.weak (L := [some (.ref (wad (gc Γ SRV ad lL) 109)), none, some (.int p1), some (.int (0 : Int32))]) ⟨rfl, rfl, rfl, trivial⟩ ?_
    refine l_X12_rule_L100 hT hX C hb E Z _ _ _ hf ad hag
  · obtain ⟨hc9, hf⟩ := if_some hf
    exact dv_vret C E hag hf hc9 (Nat.mul_le_mul_left _ hc9) (dkAt dk_X12_rule 12 rfl)
