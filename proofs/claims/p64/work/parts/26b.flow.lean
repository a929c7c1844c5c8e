theorem cx_ungc {Γ : WC} {X : MX} {cc : ByteArray} {nL : Nat} {own : String} {ret : Option FieldType} {R0 : Room} {K : Mem → Prop} {ad : Nat → Nat} {l : List Nat} (hG9 : HG Γ) (C : CX (gc Γ K ad l) X cc nL own ret R0) : CX Γ X cc nL own ret R0 := by
  obtain ⟨p, e, R, s, m, args, below, meth, c, Q⟩ := X
  obtain ⟨hx, hb, hml, hown, hts, hW, hlk, hret, hR, hK, hSs, hG⟩ := C
  exact ⟨hx, hb, hml, hown, hts, hW, hlk, hret, hR, hK, hSs, hG9⟩
def tO (s k : Nat) : Nat := 320 + 8 * s + k
theorem SHF_tO {s k : Nat} (hs : s ≤ 4) (hk : k < 8) : SHF (tO s k) = some (1, s) := by
  unfold SHF tO
  rw [if_neg (by omega), if_neg (by omega), if_neg (by omega), if_pos (by omega)]
  congr 2
  omega
theorem lT_add (l : List Nat) (a k : Nat) : l ++ List.range' a (k + 1) ++ [a + (k + 1)] = l ++ List.range' a (k + 1 + 1) := by
  have h := List.range'_append (s := a) (m := k + 1) (n := 1) (step := 1)
  rw [Nat.one_mul] at h
  rw [List.append_assoc, ← h]
  rfl
theorem lT_nd {l : List Nat} {a k : Nat} (hn : l.Nodup) (hl : ∀ o, o ∈ l → o < 300) (ha : 320 ≤ a) : (l ++ List.range' a k).Nodup := List.nodup_append.mpr ⟨hn, List.nodup_range', fun x hx y hy e => by
  have h1 := List.mem_range'_1.mp hy
  have h2 := hl x hx
  omega⟩
theorem HLa.ext {Γ : WC} {K : Mem → Prop} {ad ad1 : Nat → Nat} {l T : List Nat} {sh : Nat → Option SE} (h : HLa (gc Γ K ad l) sh) (hn : (l ++ T).Nodup) : HLa (gc Γ K ad1 (l ++ T)) sh := ⟨h.1, fun o e ho => og hn (List.mem_append_left _ (h.2.1 o e ho).1) (h.2.1 o e ho).2.2, fun o e ho => og hn (List.mem_append_left _ (h.2.2.1 o e ho).1) (h.2.2.1 o e ho).2.2, h.2.2.2⟩
noncomputable def f_X12_flow_o (sh : Nat → Option SE) (Z : Nat) (p0 p1 : Int32) (s9 : Nat) : Nat → Mem → Nat → Option (Int64 × Mem)
  | 0, _, _ => none
  | n + 1, M, k => if p1 ≤ nI k then rdL M (tO s9 k) s9 p0 (fun v => some (v, zapT M)) else @ite _ (k < 4 ∧ gI M 109 1 = nI s9 ∧ zeroM (tO s9 (k + 1)) M) (Classical.propDecidable _) (f_X12_flow_i sh Z p0 p1 (tO s9 k) s9 (nI k) (tO s9 (k + 1)) (k + 2) (fun M1 => f_X12_flow_o sh Z p0 p1 s9 n M1 (k + 1)) M) none
noncomputable def f_X12_flow (sh : Nat → Option SE) (Z : Nat) (M : Mem) (p0 p1 : Int32) : Option (Int64 × Mem) := @ite _ (¬ gI M 109 1 < 0 ∧ (gI M 109 1).toNatClampNeg ≤ 4 ∧ ZT M) (Classical.propDecidable _) (wrL M (tO (gI M 109 1).toNatClampNeg 0) (gI M 109 1).toNatClampNeg (gI M 109 5) 1 (fun M1 => f_X12_flow_o sh Z p0 p1 (gI M 109 1).toNatClampNeg Z M1 0)) none
set_option maxRecDepth 100000 in
theorem o_X12_flow {Γ : WC} {K : Mem → Prop} {ad : Nat → Nat} {l : List Nat} {sh : Nat → Option SE} (hL : HLa (gc Γ K ad l) sh) (hK9 : KR K) (hnd : l.Nodup) (hl : ∀ o, o ∈ l → o < 300) (hr : ∀ M, K M → ∀ o k j, gR M o k = some j → j < 300 ∨ j = 999) {X : MX} (C : CX Γ X cX12_flow 8 RX12 (some .long) (rmL 3 6 (6 * 6))) {rM : Int64 × Mem} (E : EndN (gc Γ K ad l) X (some (.long rM.1)) rM.2 6 (6 * 6)) {Z : Nat} {p0 p1 : Int32} {s9 : Nat} (hs : s9 ≤ 4) : ∀ (n : Nat) (M : Mem) (k : Nat) (ad1 : Nat → Nat), k ≤ 4 → (∀ o, o < 320 ∨ o = 999 → ad1 o = ad o) → f_X12_flow_o sh Z p0 p1 s9 n M k = some rM → G (gc Γ K ad1 (l ++ List.range' (tO s9 0) (k + 1))) X M (k + 1) (6 * (k + 1)) [some (.ref (ad1 109)), some (.int p0), some (.int p1), some (.ref (ad1 (tO s9 k))), some (.int (nI k))] [] 17 := by
  intro n
  induction n with
  | zero =>
    intro M k ad1 _ _ hf
    exact nomatch (show (none : Option _) = some rM from hf)
  | succ n ih =>
    intro M k ad1 hk had hf
    rw [f_X12_flow_o] at hf
    have hT0 : 320 ≤ tO s9 0 := by unfold tO; omega
    have hnd1 : (l ++ List.range' (tO s9 0) (k + 1)).Nodup := lT_nd hnd hl hT0
    have on1 : On (gc Γ K ad1 (l ++ List.range' (tO s9 0) (k + 1))) (tO s9 k) (1, s9) := og hnd1 (List.mem_append_right _ (List.mem_range'_1.mpr (by unfold tO; omega))) (SHF_tO hs (by omega))
    have C1 := C.gc hK9 ad1 (l ++ List.range' (tO s9 0) (k + 1))
    have on109 : On (gc Γ K ad1 (l ++ List.range' (tO s9 0) (k + 1))) 109 (18, 17) := (hL.ext (ad1 := ad1) hnd1).2.1 109 (18, 17) rfl
    refine x_iload C1 rfl (dkAt dk_X12_flow 11 rfl) 19 rfl ?_
    refine x_iload_n C1 rfl rfl (dkAt dk_X12_flow 12 rfl) 20 rfl ?_
    refine x_icmp_ge C1 98 (dkAt dk_X12_flow 13 rfl) 23 rfl (by decide) hf (fun hf => ?_) (fun hf => ?_)
    · refine x_aload_n C1 rfl rfl (dkAt dk_X12_flow 53 rfl) 99 rfl ?_
      refine x_iload_n C1 rfl rfl (dkAt dk_X12_flow 54 rfl) 100 rfl ?_
      refine x_lald C1 on1 (dkAt dk_X12_flow 55 rfl) 101 rfl hf (fun v hf => ?_)
      refine G.drop hK9 had hl (hr M) ?_
      exact x_lret (C.gc hK9 ad l) E hf (by omega) (by omega) (dkAt dk_X12_flow 56 rfl)
    · obtain ⟨⟨hk4, hst, hz9⟩, hf⟩ := if_some hf
      refine x_aload_n C1 rfl rfl (dkAt dk_X12_flow 14 rfl) 24 rfl ?_
      refine x_getIv C1 lk_RX12_67 on109 (dkAt dk_X12_flow 15 rfl) 27 rfl ?_
      rw [show (gI M 109 1) = (nI s9) from hst]
      refine d_newt (n := tO s9 (k + 1)) (k := 1) (N := s9) (ty := .long) C (SHF_tO hs (by omega)) (by decide) rfl ka_long rfl (fun _ => rfl) ⟨nI_pos (by omega), nI_clamp (by omega), by show s9 * 8 ≤ _; omega⟩ (fun hKM => ⟨⟨fun z => ?_, by unfold tO; omega⟩, hz9, fun o ho i z => ?_⟩) ⟨by show k + 1 + 1 ≤ 6; omega, by show 6 * (k + 1) + s9 ≤ 36; omega⟩ (dkAt dk_X12_flow 16 rfl) 29 rfl rfl rfl (fun p9 => ?_)
      · rcases List.mem_append.mp z with z | z
        · have := hl _ z
          unfold tO at this
          omega
        · have := List.mem_range'_1.mp z
          unfold tO at this
          omega
      · have := hr M hKM o i _ z
        unfold tO at this
        omega
      rw [show tO s9 (k + 1) = tO s9 0 + (k + 1) by unfold tO; omega, lT_add]
      rw [show tO s9 0 + (k + 1) = tO s9 (k + 1) by unfold tO; omega]
      have had2 : ∀ o, o < 320 ∨ o = 999 → adu ad1 (tO s9 (k + 1)) p9 o = ad o := fun o ho => (adu_ne (by unfold tO; omega)).trans (had o ho)
      have hnd2 : (l ++ List.range' (tO s9 0) (k + 1 + 1)).Nodup := lT_nd hnd hl hT0
      refine G.wide (cs1 := k + 2) (sl1 := 6 * (k + 2)) (by omega) (by omega) ?_
      have e109 : adu ad1 (tO s9 (k + 1)) p9 109 = ad1 109 := adu_ne (by unfold tO; omega)
      have ek : adu ad1 (tO s9 (k + 1)) p9 (tO s9 k) = ad1 (tO s9 k) := adu_ne (by unfold tO; omega)
      have en : adu ad1 (tO s9 (k + 1)) p9 (tO s9 (k + 1)) = p9 := adu_n
      generalize adu ad1 (tO s9 (k + 1)) p9 = ad2 at *
      rw [← e109, ← ek, ← en]
      have C2 := C.gc hK9 ad2 (l ++ List.range' (tO s9 0) (k + 1 + 1))
      have onk : On (gc Γ K ad2 (l ++ List.range' (tO s9 0) (k + 1 + 1))) (tO s9 k) (1, s9) := og hnd2 (List.mem_append_right _ (List.mem_range'_1.mpr (by unfold tO; omega))) (SHF_tO hs (by omega))
      have onn : On (gc Γ K ad2 (l ++ List.range' (tO s9 0) (k + 1 + 1))) (tO s9 (k + 1)) (1, s9) := og hnd2 (List.mem_append_right _ (List.mem_range'_1.mpr (by unfold tO; omega))) (SHF_tO hs (by omega))
      refine x_astore C2 (L1 := [some (.ref (ad2 109)), some (.int p0), some (.int p1), some (.ref (ad2 (tO s9 k))), some (.int (nI k)), some (.ref (ad2 (tO s9 (k + 1))))]) (dkAt dk_X12_flow 17 rfl) 31 rfl (by decide) rfl ?_
      refine i_X12_flow (hL.ext hnd2) C2 trivial (by omega) onk onn (fun M1 hf => ?_) hf
      change G (gc Γ K ad2 (l ++ List.range' (tO s9 0) (k + 1 + 1))) X M1 (k + 2) (6 * (k + 2)) [some (.ref (ad2 109)), some (.int p0), some (.int p1), none, some (.int (nI k)), some (.ref (ad2 (tO s9 (k + 1))))] [] 89
      refine x_aload C2 rfl (dkAt dk_X12_flow 49 rfl) 91 rfl ?_
      refine x_astore_n C2 (L1 := [some (.ref (ad2 109)), some (.int p0), some (.int p1), some (.ref (ad2 (tO s9 (k + 1)))), some (.int (nI k)), some (.ref (ad2 (tO s9 (k + 1))))]) (dkAt dk_X12_flow 50 rfl) 92 rfl rfl (by decide) rfl ?_
      refine x_iinc C2 (v := ((nI k) + (1 : Int32))) (L1 := [some (.ref (ad2 109)), some (.int p0), some (.int p1), some (.ref (ad2 (tO s9 (k + 1)))), some (.int ((nI k) + (1 : Int32))), some (.ref (ad2 (tO s9 (k + 1))))]) (dkAt dk_X12_flow 51 rfl) 95 rfl rfl rfl (by decide) rfl ?_
      rw [show nI k + (1 : Int32) = nI (k + 1) from nI_1 k]
      refine x_goto C2 17 (dkAt dk_X12_flow 52 rfl) (by decide) ?_
      exact G.weak (L := [some (.ref (ad2 109)), some (.int p0), some (.int p1), some (.ref (ad2 (tO s9 (k + 1)))), some (.int (nI (k + 1)))]) ⟨rfl, rfl, rfl, rfl, rfl, trivial⟩ (ih M1 (k + 1) ad2 (by omega) had2 hf)
set_option maxRecDepth 100000 in
theorem g_X12_flow {Γ : WC} {K : Mem → Prop} {ad : Nat → Nat} {l : List Nat} {sh : Nat → Option SE} (hL : HLa (gc Γ K ad l) sh) (hG : HG Γ) (hK9 : KR K) (hnd : l.Nodup) (hl : ∀ o, o ∈ l → o < 300) (hr : ∀ M, K M → ∀ o k j, gR M o k = some j → j < 300 ∨ j = 999) {Z : Nat} {M : Mem} {p0 p1 : Int32} {rM : Int64 × Mem} (hf : f_X12_flow sh Z M p0 p1 = some rM) : Ct (gc Γ K ad l) yX12_flow cX12_flow 8 (some .long) (rmL 3 6 (6 * 6)) [.ref (ad 109), .int p0, .int p1] M (some (.long rM.1)) rM.2 := by
  refine mkN hL.1.1 (own := RX12) rfl (by decide) (Nat.le_of_ble_eq_true rfl) (fun X C0 E => ?_)
  have C : CX Γ X cX12_flow 8 RX12 (some .long) (rmL 3 6 (6 * 6)) := cx_ungc hG C0
  obtain ⟨⟨h0, hs, hz⟩, hf⟩ := if_some hf
  obtain ⟨s9, hs9, hs9b⟩ := nI_of h0
  rw [hs9b, nI_clamp hs9] at hs hf
  change G (gc Γ K ad l) X M 0 0 [some (.ref (ad 109)), some (.int p0), some (.int p1)] [] 0
  have on109 := hL.2.1 109 (18, 17) rfl
  refine x_aload_n C0 rfl rfl (dkAt dk_X12_flow 0 rfl) 1 rfl ?_
  refine x_getIv C0 lk_RX12_67 on109 (dkAt dk_X12_flow 1 rfl) 4 rfl ?_
  rw [show (gI M 109 1) = (nI s9) from hs9b]
  refine d_newt (n := tO s9 0) (k := 1) (N := s9) (ty := .long) C (SHF_tO hs (by omega)) (by decide) rfl ka_long rfl (fun _ => rfl) ⟨nI_pos (by omega), nI_clamp (by omega), by show s9 * 8 ≤ _; omega⟩ (fun hKM => ⟨⟨fun z => ?_, by unfold tO; omega⟩, hz _ (by unfold tO; omega) (by unfold tO; omega), fun o ho i z => ?_⟩) ⟨by show 0 + 1 ≤ 6; omega, by show 0 + s9 ≤ 36; omega⟩ (dkAt dk_X12_flow 2 rfl) 6 rfl rfl rfl (fun p9 => ?_)
  · have := hl _ z
    unfold tO at this
    omega
  · have := hr M hKM o i _ z
    unfold tO at this
    omega
  have had2 : ∀ o, o < 320 ∨ o = 999 → adu ad (tO s9 0) p9 o = ad o := fun o ho => adu_ne (by unfold tO; omega)
  have hT0 : 320 ≤ tO s9 0 := by unfold tO; omega
  have hnd2 : (l ++ List.range' (tO s9 0) (0 + 1)).Nodup := lT_nd hnd hl hT0
  refine G.wide (cs1 := 0 + 1) (sl1 := 6 * (0 + 1)) (by omega) (by omega) ?_
  have e109 : adu ad (tO s9 0) p9 109 = ad 109 := adu_ne (by unfold tO; omega)
  have en : adu ad (tO s9 0) p9 (tO s9 0) = p9 := adu_n
  generalize adu ad (tO s9 0) p9 = ad2 at *
  change G (gc Γ K ad2 (l ++ List.range' (tO s9 0) (0 + 1))) X M _ _ _ _ _
  rw [← e109, ← en]
  have C2 := C.gc hK9 ad2 (l ++ List.range' (tO s9 0) (0 + 1))
  have onn : On (gc Γ K ad2 (l ++ List.range' (tO s9 0) (0 + 1))) (tO s9 0) (1, s9) := og hnd2 (List.mem_append_right _ (List.mem_range'_1.mpr (by omega))) (SHF_tO hs (by omega))
  have on109b : On (gc Γ K ad2 (l ++ List.range' (tO s9 0) (0 + 1))) 109 (18, 17) := (hL.ext (ad1 := ad2) hnd2).2.1 109 (18, 17) rfl
  refine x_astore_n C2 (L1 := [some (.ref (ad2 109)), some (.int p0), some (.int p1), some (.ref (ad2 (tO s9 0)))]) (dkAt dk_X12_flow 3 rfl) 7 rfl rfl (by decide) rfl ?_
  refine x_aload_n C2 rfl rfl (dkAt dk_X12_flow 4 rfl) 8 rfl ?_
  refine x_aload_n C2 rfl rfl (dkAt dk_X12_flow 5 rfl) 9 rfl ?_
  refine x_getIv C2 lk_RX12_100 on109b (dkAt dk_X12_flow 6 rfl) 12 rfl ?_
  refine x_lconst C2 (v := (1 : Int64)) (by decide) (dkAt dk_X12_flow 7 rfl) 13 rfl ?_
  refine x_last C2 onn (dkAt dk_X12_flow 8 rfl) 14 rfl hf (fun M1 hf => ?_)
  refine x_iconst C2 (v := (0 : Int32)) (by decide) (dkAt dk_X12_flow 9 rfl) 15 rfl ?_
  refine x_istore C2 (L1 := [some (.ref (ad2 109)), some (.int p0), some (.int p1), some (.ref (ad2 (tO s9 0))), some (.int (0 : Int32))]) (dkAt dk_X12_flow 10 rfl) 17 rfl (by decide) rfl ?_
  exact o_X12_flow hL hK9 hnd hl hr C E hs Z M1 0 ad2 (by omega) had2 hf
theorem gc_eta {Γ : WC} (h : wsh Γ = SHF) : gc Γ (wK Γ) (wad Γ) (wnl Γ) = Γ := by
  obtain ⟨a, b, c, d, e, ⟨f, g⟩, h2⟩ := Γ
  have hg : g = SHF := h
  subst hg
  rfl
theorem c_X12_flow {Γ : WC} {sh : Nat → Option SE} (hL : HLa Γ sh) (hF : HF Γ) {Z : Nat} {M : Mem} {p0 p1 : Int32} {rM : Int64 × Mem} (hf : f_X12_flow sh Z M p0 p1 = some rM) : Ct Γ yX12_flow cX12_flow 8 (some .long) (rmL 3 6 (6 * 6)) [.ref (wad Γ 109), .int p0, .int p1] M (some (.long rM.1)) rM.2 := by
  have e := gc_eta hF.1
  have h := g_X12_flow (Γ := Γ) (K := wK Γ) (ad := wad Γ) (l := wnl Γ) (by rw [e]; exact hL) hL.1.1 hL.1.1.kw hF.2.1 hF.2.2.1 hF.2.2.2 hf
  rw [e] at h
  exact h
