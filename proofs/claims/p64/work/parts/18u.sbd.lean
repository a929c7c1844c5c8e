/-! the text builder in contexts that move -/
theorem at_idx {l : List Nat} {o : Nat} (h : o ∈ l) : l[l.idxOf o]? = some o := by
  have hl := List.idxOf_lt_length_of_mem h
  rw [List.getElem?_eq_getElem hl]
  exact congrArg some (List.getElem_idxOf hl)
def Z300 (M : Mem) : Prop := (∀ k, gI M 300 k = 0) ∧ (∀ k, gL M 300 k = 0) ∧ ∀ k, gR M 300 k = none
def RR (M : Mem) : Prop := (∀ o k, gR M o k = some 211 → o = 210 ∧ k = 0) ∧ ∀ o k, gR M o k ≠ some 300
/-- the builder holds n bytes in a row of m -/
def SBM (M : Mem) (n m : Nat) : Prop := gI M 210 3 = nI n ∧ gI M 210 1 = 0 ∧ vlen M 211 = m ∧ n ≤ m ∧ m ≤ 2200 ∧ (∀ k, fits .byte (.int (gI M 211 k)) = true) ∧ Z300 M
def HB (Γ : WC) : Prop := HT Γ ∧ On Γ 210 (21, 4) ∧ On Γ 211 (4, 0) ∧ ∀ M, wK Γ M → gR M 210 0 = some 211
def LB (K9 : Mem → Prop) (l : List Nat) : Prop := ((210 ∈ l ∧ 211 ∈ l ∧ l.Nodup) ∧ 300 ∉ l) ∧ KR K9 ∧ ∀ M, K9 M → gR M 210 0 = some 211 ∧ RR M
theorem LB.hb {Γ : WC} {K9 : Mem → Prop} {l : List Nat} {ad : Nat → Nat} (h : LB K9 l) (hT : HT Γ) : HB (gc Γ K9 ad l) := ⟨hT.gc h.2.1 ad l, og h.1.1.2.2 h.1.1.1 rfl, og h.1.1.2.2 h.1.1.2.1 rfl, fun M hM => (h.2.2 M hM).1⟩
theorem LB.nz {M : Mem} {n m : Nat} {K9 : Mem → Prop} {l : List Nat} (hl : LB K9 l) (hK : K9 M) (h : SBM M n m) : NZ 300 l M := ⟨⟨hl.1.2, by decide⟩, h.2.2.2.2.2.2, fun o _ k => (hl.2.2 M hK).2.2 o k⟩
theorem LB.sL {K9 : Mem → Prop} {l : List Nat} (h : LB K9 l) {L : List (Option SV)} (hL : L.all (fun o => match o with
  | some (.inr o) => o == 210
  | _ => true) = true) : svL l L := fun v hv => by
  have := List.all_eq_true.mp hL (some v) hv
  cases v with
  | inl v => trivial
  | inr o =>
    have e : o = 210 := by simpa using this
    subst e
    exact ⟨Or.inl h.1.1.1, by decide⟩
theorem LB.sS {K9 : Mem → Prop} {l : List Nat} (h : LB K9 l) {L : List SV} (hL : L.all (fun o => match o with
  | .inr o => o == 210
  | _ => true) = true) : svS l L := fun v hv => by
  have := List.all_eq_true.mp hL v hv
  cases v with
  | inl v => trivial
  | inr o =>
    have e : o = 210 := by simpa using this
    subst e
    exact ⟨Or.inl h.1.1.1, by decide⟩
theorem GK {Γ : WC} {K9 : Mem → Prop} {ad : Nat → Nat} {l : List Nat} {X : MX} {M : Mem} {cs sl : Nat} {L : List (Option Value)} {st : List Value} {pc : Nat} (h : K9 M → G (gc Γ K9 ad l) X M cs sl L st pc) : G (gc Γ K9 ad l) X M cs sl L st pc := by
  obtain ⟨p, e, R, s, m, args, below, meth, c, Q⟩ := X
  intro H locs ls a1 a2 a3 a4 a5
  exact h a1 H locs ls a1 a2 a3 a4 a5
section SbD
variable {Γ : WC} {K9 : Mem → Prop} {X : MX} {M M1 : Mem} {cs sl : Nat} {pc : Nat} {cc : ByteArray} {nL : Nat} {own : String} {ret : Option FieldType} {R0 : Room} {ad0 ad : Nat → Nat} {l0 l : List Nat} {n : Nat} {L : List (Option SV)} {st : List SV}
/-- new byte[N]: the memory keeps its length -/
theorem d_newv {N z cs1 sl1 : Nat} {x : Int32} {L1 : List (Option Value)} {st1 : List Value} (C : CX Γ X cc nL own ret R0) (hsh : SHF n = some (4, z)) (hx : ¬ x < 0 ∧ x.toNatClampNeg = N ∧ N ≤ 100000) (hz : K9 M → NZ n l M) (hR : cs + 1 ≤ R0.cells ∧ sl + N ≤ R0.slots) (hK9 : KR K9) (d : decode cc pc = .ok (.newarray .byte, 2)) (q : Nat) (hq : pc + 2 = q) (ec : cs + 1 = cs1) (es : sl + N = sl1) (K : ∀ p9, K9 (sL M n 0 (lN N)) → G (gc Γ K9 (adu ad n p9) (l ++ [n])) X (sL M n 0 (lN N)) cs1 sl1 L1 (.ref p9 :: st1) q) : G (gc Γ K9 ad l) X M cs sl L1 (.int x :: st1) pc := by
  subst hq; subst ec; subst es
  obtain ⟨p, e, R, s, m, args, below, meth, c, Q⟩ := X
  obtain ⟨hx1, hb, hml, hown, hts, hW, hlk, hret, rfl, hK, hSs, hG⟩ := C
  intro H locs ls a1 a2 a3 a4 a5
  have hz := hz a1
  refine va_newa hx1 hb (ty := .byte) (atype := .byte) (hts _ ka_byte) rfl hK a2 a3 a4 (fun q h => h) (a0 := zA 2 N) (fun _ => rfl) hx.1 hx.2.1 (by show N * 1 ≤ _; have := hx.2.2; omega) hR.1 hR.2 d (fun q cA H1 hK1 hP hD hS => ?_)
  have hcA : cA = wA Γ 2 := by
    have h1 := (hK1.2 (tysA (wA Γ)).length (cA, .byte) (by rw [List.getElem?_append_right (Nat.le_refl _), Nat.sub_self]; rfl)).2
    exact ra_inj h1 (hK.2 2 (wA Γ 2, .byte) rfl).2
  subst hcA
  have hz1 : (n ∉ l ∧ n ≠ 999) := hz.1
  have hw : wO (gc Γ K9 (adu ad n q) (l ++ [n])) (sL M n 0 (lN N)) = wO (gc Γ K9 ad l) M ++ [(q, .inl (wA Γ 2, zA 2 N))] := by
    have h1 : wO (gc Γ K9 (adu ad n q) (l ++ [n])) M = wO (gc Γ K9 ad l) M ++ [(q, cE (wA Γ) (adu ad n q) M n (4, z))] := wO_new hz hsh
    show (l ++ [n]).map _ = _
    rw [List.map_append]
    have h2 : (l ++ [n]).map (wCell (gc Γ K9 (adu ad n q) (l ++ [n])) M) = wO (gc Γ K9 ad l) M ++ [(q, cE (wA Γ) (adu ad n q) M n (4, z))] := h1
    rw [List.map_append] at h2
    have h3 := List.append_inj_left' h2 (by simp)
    congr 1
    · rw [← h3]
      apply List.map_congr_left
      intro o ho
      have hne : o ≠ n := fun w => hz1.1 (w ▸ ho)
      show (adu ad n q o, cE (wA Γ) (adu ad n q) (sL M n 0 (lN N)) o _) = (adu ad n q o, cE (wA Γ) (adu ad n q) M o _)
      rw [cE_sL hne]
    · show [(adu ad n q n, cE (wA Γ) (adu ad n q) (sL M n 0 (lN N)) n ((SHF n).getD (0, 0)))] = _
      rw [adu_n, hsh]
      show [(q, (.inl (wA Γ 2, vlen (sL M n 0 (lN N)) n, .inl (gI M n)) : va_E))] = _
      have hv : vlen (sL M n 0 (lN N)) n = N := by
        unfold vlen
        rw [gL_sL, if_pos ⟨rfl, rfl⟩, lN_toInt (by have := hx.2.2; omega)]
        rfl
      have hI : gI M n = fun _ => 0 := funext hz.2.1.1
      rw [hv, hI]
      rfl
  exact K q (hK9 M _ (fun _ _ => rfl) a1) H1 locs ls (hK9 M _ (fun _ _ => rfl) a1) (by rw [hw]; exact hP) (by rw [hw]; exact hD) hS a5
/-- bytes of a row into another, from the first -/
theorem x_copyVV {Γ : WC} {L : List (Option Value)} {st : List Value} {a b na nb k idx : Nat} (C : CX Γ X cc nL own ret R0) (ha : On Γ a (4, na)) (hb9 : On Γ b (4, nb)) (hk : k ≤ vlen M a ∧ k ≤ vlen M b ∧ k < 100000) (hfit : ∀ j, fits .byte (.int (gI M a j)) = true) (ln : Gd (.methodLink own idx arraycopyName)) (hr : 2 ≤ R0.frames ∧ 60 ≤ R0.locals) (hw : (st.map fun v => v.category).sum ≤ 8) (d : decode cc pc = .ok (.invokestatic idx, 3)) (q : Nat) (hq : pc + 3 = q) (K : G Γ X (sW M b (fun j => if j < k then gI M a j else gI M b j)) cs sl L st q) : G Γ X M cs sl L (.int (nI k) :: .int 0 :: .ref (wad Γ b) :: .int 0 :: .ref (wad Γ a) :: st) pc := by
  subst hq
  obtain ⟨p, e, R, s, m, args, below, meth, c, Q⟩ := X
  obtain ⟨hx, hb, hml, hown, hts, hW, hlk, hret, rfl, hK, hSs, hG⟩ := C
  intro H locs ls a1 a2 a3 a4 a5
  have e0 : (nI k).toNatClampNeg = k := nI_clamp (by omega)
  refine va_copyi hx hb a5.1.symm hown (hts _ ln) (hts _ ll_copy.1) (hts _ ll_copy.2.1) (hts _ ll_copy.2.2) hK a2 a3 a4 (px Γ a) (px Γ b) 2 2 (wO_at ha) (wO_at hb9) rfl rfl rfl (by decide) (by decide) (nI_pos (by omega)) (by rw [e0, sb_cl0]; show 0 + k ≤ vlen M a; omega) (by rw [e0, sb_cl0]; show 0 + k ≤ vlen M b; omega) (fun i _ => hfit _) (by omega) (by simp [nativeFrameWords]; omega) d (fun H1 locs1 hP1 hD1 hS1 => ?_)
  generalize hf : (fun j => if j < k then gI M a j else gI M b j) = f at K
  have e1 : (wO Γ M).set (px Γ b) (wad Γ b, cE (wA Γ) (wad Γ) (sW M b f) b (4, nb)) = wO Γ (sW M b f) := wO_set hb9 (fun x hx q => cE_sW hx q)
  have e2 : gI (sW M b f) b = va_cpy (gI M a) (gI M b) (0 : Int32).toNatClampNeg (0 : Int32).toNatClampNeg (nI k).toNatClampNeg := by
    rw [gI_sW, if_pos rfl, ← hf, e0, sb_cl0]
    funext j
    by_cases h : j < k
    · rw [pk_cpy_in (by omega) (by omega), if_pos h, show 0 + (j - 0) = j by omega]
    · rw [pk_cpy_out (by omega), if_neg h]
  have e3 : cE (wA Γ) (wad Γ) (sW M b f) b (4, nb) = (Sum.inl (wA Γ 2, vlen M b, Sum.inl (va_cpy (gI M a) (gI M b) (0 : Int32).toNatClampNeg (0 : Int32).toNatClampNeg (nI k).toNatClampNeg)) : va_E) := by
    rw [← e2]; rfl
  rw [← e3, e1] at hP1 hD1
  exact K H1 locs1 ls (hG.kw M _ (fun _ _ => rfl) a1) hP1 hD1 hS1 a5
/-- the row 300 becomes the builder's row -/
def mvM (M : Mem) : Mem := (fun o k => if o = 211 then M.1 300 k else if o = 300 then 0 else M.1 o k, fun o k => if o = 211 then M.2.1 300 k else if o = 300 then 0 else M.2.1 o k, M.2.2)
theorem d_putMove {idx : Nat} {L1 : List (Option Value)} {st1 : List Value} (C : CX Γ X cc nL own ret R0) (hl : LB K9 l) (lk : FPk own idx 15 0 2 false (fun v => ∃ a, v = .ref a)) (hag : agr l0 ad0 ad) (h0 : ∀ o, o ∈ l0 → o ∈ l) (hL1 : L1 = evL ad L) (hs1 : st1 = .ref (ad 300) :: .ref (ad 210) :: evS ad st) (hL : svL l L) (hs : svS l st) (d : decode cc pc = .ok (.putfield idx, 3)) (q : Nat) (hq : pc + 3 = q) (K : GD Γ K9 ad0 l0 X l (mvM M) cs sl L st q) : G (gc Γ K9 ad (l ++ [300])) X M cs sl L1 st1 pc := by
  subst hq; subst hL1; subst hs1
  obtain ⟨⟨⟨h210, h211, hnd⟩, h300⟩, hKR, hK211⟩ := hl
  obtain ⟨p, e, R, s, m, args, below, meth, c, Q⟩ := X
  obtain ⟨hx, hb, hml, hown, hts, hW, hlk, hret, hR, hK, hSs, hG⟩ := C
  intro H locs ls a1 a2 a3 a4 a5
  obtain ⟨C, T, N, t9, h1, h2, h3, h4, h5, h6, h6b, h7, h8, h9⟩ := lk
  obtain ⟨z1, z2⟩ := h9 (.ref (ad 300)) ⟨_, rfl⟩
  have hkN : 0 < nFd 15 := by rw [nFd_of h1]; exact h2
  have hnd1 : (l ++ [300]).Nodup := List.nodup_append.mpr ⟨hnd, List.nodup_cons.mpr ⟨List.not_mem_nil, List.nodup_nil⟩, fun a ha b hb e => by
    rw [List.mem_singleton.mp hb] at e
    exact h300 (e ▸ ha)⟩
  have on210 : On (gc Γ K9 ad (l ++ [300])) 210 (21, 4) := og hnd1 (List.mem_append_left _ h210) rfl
  have on300 : On (gc Γ K9 ad (l ++ [300])) 300 (4, 0) := og hnd1 (List.mem_append_right _ (List.mem_singleton.mpr rfl)) rfl
  refine va_put hx hb (Ts := u_ws C T N) (fun w hw => hts w (h4 w hw)) (fun w h => h) t9 h7 h8 hown hK a2 a3 a4 (px (gc Γ K9 ad (l ++ [300])) 210) (wO_at on210) h1 0 h2 (hts _ h5) (fun _ h => h) h6 (h7 0 h2) z1 z2 (by rw [fsO_len]; exact hkN) d (fun H1 locs1 hP1 hD1 hS1 => ?_)
  have hag1 : agr l ad (adu ad 211 (ad 300)) := fun o _ hn => adu_ne hn
  have hgR : ∀ a b, gR (mvM M) a b = gR M a b := fun _ _ => rfl
  have hK2 : gR M 210 0 = some 211 := (hK211 M a1).1
  have hRR : ∀ o k, gR M o k = some 211 → o = 210 ∧ k = 0 := (hK211 M a1).2.1
  -- where each cell of the new world stands in the old one
  generalize hwN : (wO (gc Γ K9 ad (l ++ [300])) M).set (px (gc Γ K9 ad (l ++ [300])) 210) (wad (gc Γ K9 ad (l ++ [300])) 210, .inr (15, (fsO ad M 210 15).set 0 (.ref (ad 300)))) = W9
  have hP2 : va_P (wD Γ) vwCl W9 H1 := by rw [← hwN]; exact hP1
  have hD2 : va_D (fAg Γ) W9 := by rw [← hwN]; exact hD1
  have hpos : ∀ o, o ∈ l → ∃ j : Nat, W9[j]? = some (adu ad 211 (ad 300) o, cE (wA Γ) (adu ad 211 (ad 300)) (mvM M) o ((SHF o).getD (0, 0))) ∧ (l ++ [300])[j]? = some (if o = 211 then 300 else o) := by
    intro o ho
    by_cases c1 : o = 211
    · subst c1
      have h300m : (300 : Nat) ∈ l ++ [300] := on300.1
      refine ⟨px (gc Γ K9 ad (l ++ [300])) 300, ?_, ?_⟩
      · have hne : px (gc Γ K9 ad (l ++ [300])) 210 ≠ px (gc Γ K9 ad (l ++ [300])) 300 := fun z => by
          have q1 : (l ++ [300])[px (gc Γ K9 ad (l ++ [300])) 210]? = some 210 := at_idx on210.1
          have q2 : (l ++ [300])[px (gc Γ K9 ad (l ++ [300])) 300]? = some 300 := at_idx on300.1
          rw [z, q2] at q1
          exact absurd (Option.some.inj q1) (by decide)
        rw [← hwN, List.getElem?_set_ne hne, wO_at on300]
        rfl
      · rw [if_pos rfl]
        exact at_idx h300m
    · obtain ⟨j, hj⟩ := List.getElem?_of_mem (List.mem_append_left [300] ho)
      refine ⟨j, ?_, by rw [if_neg c1]; exact hj⟩
      have hpx : px (gc Γ K9 ad (l ++ [300])) o = j := px_of hnd1 hj
      have hne3 : o ≠ 300 := fun z => h300 (z ▸ ho)
      by_cases c2 : o = 210
      · subst c2
        have hlt : j < (wO (gc Γ K9 ad (l ++ [300])) M).length := by
          have := (List.getElem?_eq_some_iff.mp (wO_at (M := M) on210)).1
          rw [hpx] at this
          exact this
        rw [← hwN, hpx, List.getElem?_set_self hlt, adu_ne c1]
        have e0 : (fsO ad M 210 15).set 0 (.ref (ad 300)) = fsO (adu ad 211 (ad 300)) (mvM M) 210 15 := by
          have hf : ∀ jj k9, fVal (adu ad 211 (ad 300)) (mvM M) 210 jj k9 = if jj = 0 ∧ 2 ≤ k9 then .ref (ad 300) else fVal ad M 210 jj k9 := fun jj k9 => by
            match k9 with
            | 0 => rw [if_neg (fun z => by omega)]; rfl
            | 1 => rw [if_neg (fun z => by omega)]; rfl
            | k9 + 2 =>
              show va_rf ((gR M 210 jj).map (adu ad 211 (ad 300))) = _
              by_cases cj : jj = 0
              · subst cj
                rw [hK2, if_pos ⟨rfl, by omega⟩, Option.map_some, adu_n]
                rfl
              · rw [if_neg (fun z => cj z.1)]
                show _ = va_rf ((gR M 210 jj).map ad)
                cases hg : gR M 210 jj with
                | none => rfl
                | some w =>
                  have hw : w ≠ 211 := fun z => cj (hRR 210 jj (by rw [hg, z])).2
                  rw [Option.map_some, Option.map_some, adu_ne hw]
          have := fsO_set (ad := adu ad 211 (ad 300)) (M := M) (M' := mvM M) (o := 210) (ci := 15) hkN (fun jj k9 hj => by
            rw [hf, if_neg (fun z => hj z.1)]
            match k9 with
            | 0 => rfl
            | 1 => rfl
            | k9 + 2 =>
              show va_rf ((gR M 210 jj).map ad) = va_rf ((gR M 210 jj).map (adu ad 211 (ad 300)))
              cases hg : gR M 210 jj with
              | none => rfl
              | some w =>
                have hw : w ≠ 211 := fun z => hj (hRR 210 jj (by rw [hg, z])).2
                rw [Option.map_some, Option.map_some, adu_ne hw])
          rw [← this, h3, hf, if_pos ⟨rfl, by decide⟩]
          apply List.ext_getElem?
          intro i
          by_cases ci : i = 0
          · subst ci
            rw [List.getElem?_set_self (by rw [fsO_len]; exact hkN), List.getElem?_set_self (by rw [fsO_len]; exact hkN)]
          · rw [List.getElem?_set_ne (Ne.symm ci), List.getElem?_set_ne (Ne.symm ci)]
            by_cases hl9 : i < nFd 15
            · rw [fsO_at hl9, fsO_at hl9]
              congr 1
              match kFd 15 i with
              | 0 => rfl
              | 1 => rfl
              | k9 + 2 =>
                show va_rf ((gR M 210 i).map ad) = va_rf ((gR M 210 i).map (adu ad 211 (ad 300)))
                cases hg : gR M 210 i with
                | none => rfl
                | some w =>
                  have hw : w ≠ 211 := fun z => ci (hRR 210 i (by rw [hg, z])).2
                  rw [Option.map_some, Option.map_some, adu_ne hw]
            · rw [List.getElem?_eq_none (by rw [fsO_len]; omega), List.getElem?_eq_none (by rw [fsO_len]; omega)]
        rw [e0]
        rfl
      · have hne : px (gc Γ K9 ad (l ++ [300])) 210 ≠ j := fun z => by
          have q1 : (l ++ [300])[px (gc Γ K9 ad (l ++ [300])) 210]? = some 210 := at_idx on210.1
          rw [z, hj] at q1
          exact c2 (Option.some.inj q1)
        rw [← hwN, List.getElem?_set_ne hne]
        show ((l ++ [300]).map (wCell (gc Γ K9 ad (l ++ [300])) M))[j]? = _
        rw [List.getElem?_map, hj, Option.map_some, adu_ne c1]
        show some (ad o, cE (wA Γ) ad M o ((SHF o).getD (0, 0))) = _
        have e1 : gI (mvM M) o = gI M o := funext fun k => by
          show (if o = 211 then _ else if o = 300 then _ else M.1 o k) = _
          rw [if_neg c1, if_neg hne3]
          rfl
        have e2 : gL (mvM M) o = gL M o := funext fun k => by
          show (if o = 211 then _ else if o = 300 then _ else M.2.1 o k) = _
          rw [if_neg c1, if_neg hne3]
          rfl
        have e3 : gR (mvM M) o = gR M o := rfl
        have h4 : cE (wA Γ) ad (mvM M) o ((SHF o).getD (0, 0)) = cE (wA Γ) ad M o ((SHF o).getD (0, 0)) := by
          have h5 : ∀ j q, fVal ad (mvM M) o j q = fVal ad M o j q := fun j q => by simp only [fVal, e1, e2, e3]
          simp only [cE, vlen, fsO, e1, e2, e3, h5]
        rw [cE_ad (ad := ad) (ad1 := adu ad 211 (ad 300)) (fun k j hj => adu_ne (fun z => c2 (hRR o k (by rw [← z]; exact hj)).1)), h4]
  have hP : va_P (wD Γ) vwCl (wO (gc Γ K9 (adu ad 211 (ad 300)) l) (mvM M)) H1 := fun k q hk => by
    have hk2 : (l.map (wCell (gc Γ K9 (adu ad 211 (ad 300)) l) (mvM M)))[k]? = some q := hk
    rw [List.getElem?_map] at hk2
    cases hlk9 : l[k]? with
    | none => rw [hlk9] at hk2; exact nomatch hk2
    | some o =>
      rw [hlk9] at hk2
      obtain ⟨j, hj, -⟩ := hpos o (List.mem_of_getElem? hlk9)
      have hq := (Option.some.inj hk2).symm
      rw [hq]
      exact hP2 j _ hj
  have hD : va_D (fAg Γ) (wO (gc Γ K9 (adu ad 211 (ad 300)) l) (mvM M)) := by
    have hget : ∀ (k : Nat) (q : Nat × va_E), (wO (gc Γ K9 (adu ad 211 (ad 300)) l) (mvM M))[k]? = some q → ∃ o j, l[k]? = some o ∧ W9[j]? = some q ∧ (l ++ [300])[j]? = some (if o = 211 then 300 else o) := fun k q hk => by
      have hk2 : (l.map (wCell (gc Γ K9 (adu ad 211 (ad 300)) l) (mvM M)))[k]? = some q := hk
      rw [List.getElem?_map] at hk2
      cases hlk9 : l[k]? with
      | none => rw [hlk9] at hk2; exact nomatch hk2
      | some o =>
        rw [hlk9] at hk2
        obtain ⟨j, hj, hj2⟩ := hpos o (List.mem_of_getElem? hlk9)
        have hq := (Option.some.inj hk2).symm
        exact ⟨o, j, rfl, by rw [hq]; exact hj, hj2⟩
    refine ⟨fun i j x y hi hj hxy => ?_, fun k x hk => ?_⟩
    · obtain ⟨o1, j1, p1, p2, p3⟩ := hget i x hi
      obtain ⟨o2, j2, r1, r2, r3⟩ := hget j y hj
      have hjj := hD2.1 j1 j2 x y p2 r2 hxy
      subst hjj
      rw [p3] at r3
      have ho : o1 = o2 := by
        have h9 := Option.some.inj r3
        have n1 : o1 ≠ 300 := fun z => h300 (z ▸ List.mem_of_getElem? p1)
        have n2 : o2 ≠ 300 := fun z => h300 (z ▸ List.mem_of_getElem? r1)
        by_cases c1 : o1 = 211 <;> by_cases c2 : o2 = 211
        · rw [c1, c2]
        · rw [if_pos c1, if_neg c2] at h9
          exact absurd h9.symm n2
        · rw [if_neg c1, if_pos c2] at h9
          exact absurd h9 n1
        · rw [if_neg c1, if_neg c2] at h9
          exact h9
      subst ho
      obtain ⟨b1, b2⟩ := List.getElem?_eq_some_iff.mp p1
      obtain ⟨b3, b4⟩ := List.getElem?_eq_some_iff.mp r1
      exact (List.getElem_inj hnd).mp (b2.trans b4.symm)
    · obtain ⟨o1, j1, p1, p2, -⟩ := hget k x hk
      exact hD2.2 j1 x p2
  have kk := K (adu ad 211 (ad 300)) (hag.trans hag1 h0)
  rw [evL_agr hag1 hL, evS_agr hag1 hs] at kk
  exact kk H1 locs1 ls (hKR M _ hgR a1) hP hD hS1 a5
end SbD
theorem x_cSU {Γ : WC} {X : MX} {M M1 : Mem} {cs sl : Nat} {L : List (Option Value)} {st stk As : List Value} {pc idx n o maxL ci nn : Nat} {cc bytes : ByteArray} {nL : Nat} {own : String} {ret rt : Option FieldType} {R0 rm : Room} {y : MethodName} {v : Option Value} (C : CX Γ X cc nL own ret R0) (hM : Ct Γ y bytes maxL rt rm (.ref (wad Γ o) :: As) M v M1) (mw : MSU own idx y bytes maxL rt n) (ho : On Γ o (ci + 6, nn)) {q9 : vw_C} (hq9 : vwCl[ci]? = some q9) (hr : RO rm R0 maxL cs sl) (hn : As.length = n) (hst : stk = As.reverse ++ .ref (wad Γ o) :: st) (hw : (st.map fun v => v.category).sum ≤ 8) (d : decode cc pc = .ok (.invokespecial idx, 3)) (q : Nat) (hq : pc + 3 = q) (cs1 sl1 : Nat) (ec : cs + rm.cells = cs1) (es : sl + rm.slots = sl1) (K : G Γ X M1 cs1 sl1 L (v.toList ++ st) q) : G Γ X M cs sl L stk pc := by
  obtain ⟨p, e, R, s, m, args, below, meth, c, Q⟩ := X
  obtain ⟨hx, hb, hml, hown, hts, hW, hlk, hret, rfl, hK, hSs, hG⟩ := C
  obtain ⟨m1, m2, m3, m4, m5, m6, m7, m8⟩ := mw
  subst hst; subst hml; subst hq; subst ec; subst es
  intro H locs ls a1 a2 a3 a4 a5
  have hcw : va_CS R s args own idx y bytes maxL rt [Cond.code y bytes maxL rt] rm rm.cells rm.slots n := ⟨⟨rfl, rfl, hr.1, hr.2.1, fun w hw a U hU => by
    rw [List.mem_singleton.mp hw]
    exact hG.1 _ m2 _ _ (State.WarmedH.trans hW hU), List.mem_singleton.mpr rfl⟩, hts _ m3, hts _ m4, hts _ m5, hts _ m6, hts _ m1, hts _ m2, m7, fun sig h => by
      rw [h] at m8
      exact (Option.some.inj m8).symm⟩
  exact callN (va_runSU (Ts := []) (own := own) (hK.1 ci q9 hq9).2 ⟨hx, hb, rfl, hown, fun _ h => nomatch h⟩ hM hcw ⟨WP.blind, (show RC Γ o q9.1 from ⟨ci, nn, q9, ho, hq9, rfl⟩).recv hK a2, fun U hU hU2 => ⟨rfl, a1, State.WarmedH.trans hW hU2, by rw [hU]; exact S_nil a4, by rw [hU]; exact a2, a3⟩⟩ rfl hn a5.1 rfl (lv_room hw) d ⟨hr.2.2.1, hr.2.2.2⟩) a4 (fun H1 locs1 b1 b2 b3 b4 => K H1 locs1 ls b1 b2 b3 b4 a5)
