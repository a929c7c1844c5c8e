/-! what ends a text: its bytes behind one another in a string -/
section Fin
variable {Γ : WC} {K9 : Mem → Prop} {X : MX} {M M1 : Mem} {cs sl : Nat} {pc : Nat} {cc : ByteArray} {nL : Nat} {own : String} {ret : Option FieldType} {R0 : Room} {ad : Nat → Nat} {l : List Nat} {n : Nat} {L1 : List (Option Value)} {st1 : List Value}
theorem x_putFI {L : List (Option Value)} {st : List Value} (C : CX Γ X cc nL own ret R0) (hinit : XI X) {o n idx ci k : Nat} {v : Int32} {ok : Value → Prop} (lk : FPk own idx ci k 0 true ok) (hok : ok (.int v)) (hs : On Γ o (ci + 6, n)) (d : decode cc pc = .ok (.putfield idx, 3)) (q : Nat) (hq : pc + 3 = q) (K : G Γ X (sI M o k v) cs sl L st q) : G Γ X M cs sl L (.int v :: .ref (wad Γ o) :: st) pc := by
  subst hq
  obtain ⟨p, e, R, s, m, args, below, meth, c, Q⟩ := X
  obtain ⟨hx, hb, hml, hown, hts, hW, hlk, hret, hR, hK, hSs, hG⟩ := C
  intro H locs ls a1 a2 a3 a4 a5
  obtain ⟨C, T, N, t9, h1, h2, h3, h4, h5, h6, h6b, h7, h8, h9⟩ := lk
  obtain ⟨z1, z2⟩ := h9 _ hok
  have hkN : k < nFd ci := by rw [nFd_of h1]; exact h2
  refine va_putF hx hb (Ts := u_ws C T N) (fun w hw => hts w (h4 w hw)) (fun w h => h) t9 h7 h8 hown hK a2 a3 a4 (px Γ o) (wO_at hs) h1 k h2 (hts _ h5) (fun _ h => h) h6 hinit (h6b rfl) (h7 k h2) z1 z2 (by rw [fsO_len]; exact hkN) d (fun H1 locs1 hP1 hD1 hS1 => ?_)
  have e0 : (fsO (wad Γ) M o ci).set k (.int v) = fsO (wad Γ) (sI M o k v) o ci := by
    have := fsO_set (ad := wad Γ) (M := M) (M' := sI M o k v) (o := o) (ci := ci) hkN (fun j q hj => by simp only [fVal]; split <;> first | (rw [gI_sI, if_neg (fun z => hj z.2)]; done) | rfl)
    rw [h3] at this
    simp only [fVal, gI_sI, and_self, if_true] at this; exact this
  have e1 : (wO Γ M).set (px Γ o) (wad Γ o, cE (wA Γ) (wad Γ) (sI M o k v) o (ci + 6, n)) = wO Γ (sI M o k v) := wO_set hs (fun a ha q => cE_sI ha q)
  have e3 : cE (wA Γ) (wad Γ) (sI M o k v) o (ci + 6, n) = (Sum.inr (ci, (fsO (wad Γ) M o ci).set k (.int v)) : va_E) := by
    rw [e0]; rfl
  rw [← e3, e1] at hP1 hD1
  exact K H1 locs1 ls (hG.kw M _ (fun _ _ => rfl) a1) hP1 hD1 hS1 a5
def clM (M : Mem) (n : Nat) : Mem := sW (sL M n 0 (lN (vlen M 211))) n (gI M 211)
/-- a copy of the builder's row -/
theorem d_clone {m z cs1 sl1 : Nat} (C : CX Γ X cc nL own ret R0) (hsh : SHF n = some (4, z)) (h211 : On (gc Γ K9 ad l) 211 (4, 0)) (hv : vlen M 211 = m) (hm : m ≤ 100000) (hfit : ∀ k, fits .byte (.int (gI M 211 k)) = true) (hz : K9 M → NZ n l M) (hR : cs + 1 ≤ R0.cells ∧ sl + m ≤ R0.slots) (hfl : 1 ≤ R0.frames ∧ 60 ≤ R0.locals) (hw : (st1.map fun v => v.category).sum ≤ 8) (hK9 : KR K9) {index : Nat}
    (w1 : Gd (.methodLink own index ⟨"[B", "clone", "()Ljava/lang/Object;"⟩)) (w2 : Gd (.sameMethod "[B" "java/lang/Object" "clone" "()Ljava/lang/Object;")) (w3 : Gd (.native ⟨"java/lang/Object", "clone", "()Ljava/lang/Object;"⟩)) (w4 : Gd (.instanceMethod ⟨"java/lang/Object", "clone", "()Ljava/lang/Object;"⟩)) (w5 : Gd (.selects "[B" ⟨"[B", "clone", "()Ljava/lang/Object;"⟩ ⟨"java/lang/Object", "clone", "()Ljava/lang/Object;"⟩)) (w6 : Gd (.castable "[B" "java/lang/Cloneable"))
    (d : decode cc pc = .ok (.invokevirtual index, 3)) (q : Nat) (hq : pc + 3 = q) (ec : cs + 1 = cs1) (es : sl + m = sl1) (K : ∀ p9, K9 (clM M n) → G (gc Γ K9 (adu ad n p9) (l ++ [n])) X (clM M n) cs1 sl1 L1 (.ref p9 :: st1) q) : G (gc Γ K9 ad l) X M cs sl L1 (.ref (ad 211) :: st1) pc := by
  subst hq; subst ec; subst es; subst hv
  obtain ⟨p, e, R, s, mm, args, below, meth, c, Q⟩ := X
  obtain ⟨hx1, hb, hml, hown, hts, hW, hlk, hret, rfl, hK, hSs, hG⟩ := C
  intro H locs ls a1 a2 a3 a4 a5
  have hz := hz a1
  have hnm : s.vm.findClass "[B" = some (wA Γ 2) := (hK.2 2 (wA Γ 2, .byte) rfl).2
  have hsl : (vp_cell (wA Γ 2) (vlen M 211, .inl (gI M 211))).slots.size = vlen M 211 := arrV_size _ _ _
  refine va_clone hx1 hb a5.1.symm hown (hts _ w1) (hts _ w2) (hts _ w3) (hts _ w4) (hts _ w5) (va_Nw.of rfl (hts _ w6)) hK a2 a3 a4 (fun q h => h) (px (gc Γ K9 ad l) 211) 2 (wO_at h211) rfl hnm (fun i v hi => ?_) hfl.1 (by omega) hR.1 hR.2 d (fun q H1 hK1 hP hD hS => ?_)
  · have hi2 : (arrV (wA Γ 2) (vlen M 211) (fun j => Value.int (gI M 211 j))).slots[i]? = some v := hi
    have hlt : i < vlen M 211 := by
      have := (Array.getElem?_eq_some_iff.mp hi2).1
      rw [arrV_size] at this
      exact this
    rw [arrV_read _ _ hlt] at hi2
    rw [← Option.some.inj hi2]
    exact hfit i
  · have hz1 : (n ∉ l ∧ n ≠ 999) := hz.1
    have hw : wO (gc Γ K9 (adu ad n q) (l ++ [n])) (clM M n) = wO (gc Γ K9 ad l) M ++ [(q, .inl (wA Γ 2, vlen M 211, .inl (gI M 211)))] := by
      have h1 : wO (gc Γ K9 (adu ad n q) (l ++ [n])) M = wO (gc Γ K9 ad l) M ++ [(q, cE (wA Γ) (adu ad n q) M n (4, z))] := wO_new hz hsh
      show (l ++ [n]).map _ = _
      rw [List.map_append]
      have h2 : (l ++ [n]).map (wCell (gc Γ K9 (adu ad n q) (l ++ [n])) M) = wO (gc Γ K9 ad l) M ++ [(q, cE (wA Γ) (adu ad n q) M n (4, z))] := h1
      rw [List.map_append] at h2
      have h3 := List.append_inj_left' h2 (by simp)
      congr 1
      · rw [← h3]
        apply List.map_congr_left
        intro o ho
        have hne : o ≠ n := fun w => hz1.1 (w ▸ ho)
        show (adu ad n q o, cE (wA Γ) (adu ad n q) (sW (sL M n 0 _) n _) o _) = (adu ad n q o, cE (wA Γ) (adu ad n q) M o _)
        rw [cE_sW hne, cE_sL hne]
      · show [(adu ad n q n, cE (wA Γ) (adu ad n q) (clM M n) n ((SHF n).getD (0, 0)))] = _
        rw [adu_n, hsh]
        show [(q, (.inl (wA Γ 2, vlen (clM M n) n, .inl (gI (clM M n) n)) : va_E))] = _
        have hv : vlen (clM M n) n = vlen M 211 := by
          unfold clM
          show ((sL M n 0 (lN (vlen M 211))).2.1 n 0).toInt.toNat = _
          show (gL (sL M n 0 (lN (vlen M 211))) n 0).toInt.toNat = _
          rw [gL_sL, if_pos ⟨rfl, rfl⟩, lN_toInt (by omega)]
          rfl
        have hI : gI (clM M n) n = gI M 211 := by rw [clM, gI_sW, if_pos rfl]
        rw [hv, hI]
    exact K q (hK9 M _ (fun _ _ => rfl) a1) H1 locs ls (hK9 M _ (fun _ _ => rfl) a1) (by rw [hw]; exact hP) (by rw [hw]; exact hD) hS a5
theorem x_castV {o z : Nat} {L : List (Option Value)} {st : List Value} (C : CX Γ X cc nL own ret R0) (hs : On Γ o (4, z)) {index : Nat} (hl : Gd (.classLink own index "[B")) (d : decode cc pc = .ok (.checkcast index, 3)) (q : Nat) (hq : pc + 3 = q) (K : G Γ X M cs sl L (.ref (wad Γ o) :: st) q) : G Γ X M cs sl L (.ref (wad Γ o) :: st) pc := by
  subst hq
  obtain ⟨p, e, R, s, m, args, below, meth, c, Q⟩ := X
  obtain ⟨hx, hb, hml, hown, hts, hW, hlk, hret, hR, hK, hSs, hG⟩ := C
  intro H locs ls a1 a2 a3 a4 a5
  exact va_castA hx hb hown (hts _ hl) a2 (px Γ o) (wO_at hs) (hK.2 2 (wA Γ 2, .byte) rfl).2 d (K H locs ls a1 a2 a3 a4 a5)
end Fin
/-- the bytes of the text -/
def cr1 (M : Mem) (n : Nat) : Mem := sW (sL M 213 0 (lN n)) 213 (fun j => if j < n then gI M 211 j else gI M 213 j)
def rgM (M : Mem) (n : Nat) : Mem := if n = vlen M 211 then clM M 213 else cr1 M n
theorem rgM_at {M : Mem} {n k : Nat} (hk : k < n) : gI (rgM M n) 213 k = gI M 211 k := by
  unfold rgM
  split
  · rfl
  · show (if k < n then _ else _) = _
    rw [if_pos hk]
theorem rgM_ne {M : Mem} {n o k : Nat} (h : o ≠ 213) : gI (rgM M n) o k = gI M o k := by
  unfold rgM
  split
  · show (if o = 213 then _ else M.1 o k) = _
    rw [if_neg h]
    rfl
  · show (if o = 213 then _ else M.1 o k) = _
    rw [if_neg h]
    rfl
theorem rgM_L {M : Mem} {n o k : Nat} (h : o ≠ 213) : gL (rgM M n) o k = gL M o k := by
  unfold rgM
  split
  · show (if o = 213 ∧ k = 0 then _ else M.2.1 o k) = _
    rw [if_neg (fun z => h z.1)]
    rfl
  · show (if o = 213 ∧ k = 0 then _ else M.2.1 o k) = _
    rw [if_neg (fun z => h z.1)]
    rfl
theorem rgM_R {M : Mem} {n o k : Nat} : gR (rgM M n) o k = gR M o k := by
  unfold rgM
  split <;> rfl
theorem rgM_len {M : Mem} {n : Nat} (hn : n < 2 ^ 31) : vlen (rgM M n) 213 = n := by
  unfold rgM
  split
  · rename_i h
    show (gL (sL M 213 0 (lN (vlen M 211))) 213 0).toInt.toNat = n
    rw [gL_sL, if_pos ⟨rfl, rfl⟩, ← h, lN_toInt hn]
    rfl
  · show (gL (sL M 213 0 (lN n)) 213 0).toInt.toNat = n
    rw [gL_sL, if_pos ⟨rfl, rfl⟩, lN_toInt hn]
    rfl
theorem wc1 : Gd (.methodLink RJ7 310 ⟨"[B", "clone", "()Ljava/lang/Object;"⟩) := gd 559 (by decide +kernel) rfl
theorem wc2 : Gd (.sameMethod "[B" "java/lang/Object" "clone" "()Ljava/lang/Object;") := gd 560 (by decide +kernel) rfl
theorem wc3 : Gd (.native ⟨"java/lang/Object", "clone", "()Ljava/lang/Object;"⟩) := gd 561 (by decide +kernel) rfl
theorem wc4 : Gd (.instanceMethod ⟨"java/lang/Object", "clone", "()Ljava/lang/Object;"⟩) := gd 562 (by decide +kernel) rfl
theorem wc5 : Gd (.selects "[B" ⟨"[B", "clone", "()Ljava/lang/Object;"⟩ ⟨"java/lang/Object", "clone", "()Ljava/lang/Object;"⟩) := gd 563 (by decide +kernel) rfl
theorem wc6 : Gd (.castable "[B" "java/lang/Cloneable") := gd 564 (by decide +kernel) rfl
theorem wc7 : Gd (.classLink RJ7 311 "[B") := gd 565 (by decide +kernel) rfl
theorem kl_RJ4_18 : Gd (.classLink RJ4 18 RJ0) := gd 1610 (by decide +kernel) rfl
theorem ki_14 : Gd (.instantiable RJ0 4) := gd 1611 (by decide +kernel) rfl
theorem kn_14 : Gd (.initialized RJ0) := gd 51 (by decide +kernel) rfl
theorem kd_14 : ∀ k, k < 4 → defaultValue (tyJ0 k) = zV (kFd 14 k) := by decide +kernel
theorem lkJ0_9 : FLk RJ0 9 14 0 2 := ⟨_, _, _, rc14, by decide, by decide +kernel, uw14, fl_RJ0_9⟩
theorem lkJ0_15 : FLk RJ0 15 14 1 0 := ⟨_, _, _, rc14, by decide, by decide +kernel, uw14, fl_RJ0_15⟩
theorem pkJ0_9 : FPk RJ0 9 14 0 2 true (fun v => ∃ a, v = .ref a) := ⟨_, _, _, tyJ0, rc14, by decide, by decide +kernel, uw14, fl_RJ0_9, rfl, (fun _ => rfl), tyJ0_ok, nmJ0, (fun v h => by obtain ⟨x, rfl⟩ := h; exact ⟨rfl, rfl⟩)⟩
theorem pkJ0_15 : FPk RJ0 15 14 1 0 true (fun v => v = .int 0) := ⟨_, _, _, tyJ0, rc14, by decide, by decide +kernel, uw14, fl_RJ0_15, rfl, (fun _ => rfl), tyJ0_ok, nmJ0, (fun v h => by subst h; exact ⟨rfl, rfl⟩)⟩
theorem mii_J5_init_a7421 : Gd (.instanceMethod yJ5_init_a7421) ∧ yJ5_init_a7421.name = "<init>" := ⟨mn_J5_init_a7421, rfl⟩
theorem mii_J4_init_a7421 : Gd (.instanceMethod yJ4_init_a7421) ∧ yJ4_init_a7421.name = "<init>" := ⟨mn_J4_init_a7421, rfl⟩
theorem mii_J0_init_81219 : Gd (.instanceMethod yJ0_init_81219) ∧ yJ0_init_81219.name = "<init>" := ⟨mn_J0_init_81219, rfl⟩
theorem mii_J0_init_db425 : Gd (.instanceMethod yJ0_init_db425) ∧ yJ0_init_db425.name = "<init>" := ⟨mn_J0_init_db425, rfl⟩
theorem l3_nd {l : List Nat} {n : Nat} (hl : l.Nodup) (hn : n ∉ l) : (l ++ [n]).Nodup := List.nodup_append.mpr ⟨hl, List.nodup_cons.mpr ⟨List.not_mem_nil, List.nodup_nil⟩, fun a ha b hb e => by
  rw [List.mem_singleton.mp hb] at e
  exact hn (e ▸ ha)⟩
theorem cb_checkLength {Γ : WC} (hG : HG Γ) {M : Mem} {a b : Int32} (h : a ≤ b) : Ct Γ yJ7_checkLength_df160 cJ7_checkLength_df160 2 none (rmL 0 0 0) [.int a, .int b] M none M := by
  refine mkN hG (own := RJ7) rfl (by decide) (Nat.le_of_ble_eq_true rfl) (fun X C E => ?_)
  change G Γ X M 0 0 [some (.int a), some (.int b)] [] 0
  refine x_iload_n C rfl rfl (dkAt dk_J7_checkLength_df160 0 rfl) 1 rfl ?_
  refine x_iload_n C rfl rfl (dkAt dk_J7_checkLength_df160 1 rfl) 2 rfl ?_
  refine xcT_ge C h 37 (dkAt dk_J7_checkLength_df160 2 rfl) (by decide) ?_
  exact x_vret (rM := ((), M)) C E rfl (Nat.le_refl _) (Nat.le_refl _) (dkAt dk_J7_checkLength_df160 17 rfl)
theorem cb_corB {Γ : WC} (hT : HT Γ) {K9 : Mem → Prop} {l : List Nat} (hl : LB K9 l) {M : Mem} {n m : Nat} (hB : SBM M n m) (hz : ∀ M, K9 M → ∀ o, o ∈ l → ∀ k, gR M o k ≠ some 213) (h213 : 213 ∉ l) (hz3 : (∀ k, gI M 213 k = 0) ∧ (∀ k, gL M 213 k = 0) ∧ ∀ k, gR M 213 k = none) (hnm : n ≠ m) : CtD Γ K9 K9 yJ7_copyOfRangeByte_39247 cJ7_copyOfRangeByte_39247 5 (some (.array .byte)) (rmL 1 1 2200) l (l ++ [213]) [.inr 211, .inl (.int (0 : Int32)), .inl (.int (nI n))] M (some (.inr 213)) (rgM M n) := by
  refine mkD hT.1 (own := RJ7) rfl (by decide) (fun ad => Nat.le_of_ble_eq_true rfl) (fun ad X C hI E => ?_)
  have hN : HB (gc Γ K9 ad l) := hl.hb hT
  have hm : m ≤ 2200 := hB.2.2.2.2.1
  have hcn : n ≤ m := hB.2.2.2.1
  have C0 := C.gc hl.2.1 ad l
  change G (gc Γ K9 ad l) X M 0 0 [some (.ref (ad 211)), some (.int (0 : Int32)), some (.int (nI n))] [] 0
  refine x_iload_n C0 rfl rfl (dkAt dk_J7_copyOfRangeByte_39247 0 rfl) 1 rfl ?_
  refine x_iload_n C0 rfl rfl (dkAt dk_J7_copyOfRangeByte_39247 1 rfl) 2 rfl ?_
  refine x_cSv C0 (cb_checkLength hN.1.1 (nI_pos' (by omega))) mw_J7_checkLength_df160 ln_RJ7_343 ms_J7_checkLength_df160 (ro_of (by decide) (by decide) (by decide) (by decide)) rfl rfl (Nat.le_of_ble_eq_true rfl) (dkAt dk_J7_copyOfRangeByte_39247 2 rfl) 5 rfl 0 0 rfl rfl ?_
  refine x_iload_n C0 rfl rfl (dkAt dk_J7_copyOfRangeByte_39247 3 rfl) 6 rfl ?_
  refine x_iload_n C0 rfl rfl (dkAt dk_J7_copyOfRangeByte_39247 4 rfl) 7 rfl ?_
  refine x_isub C0 (dkAt dk_J7_copyOfRangeByte_39247 5 rfl) 8 rfl ?_
  rw [show ((nI n) - (0 : Int32)) = (nI n) from Int32.sub_zero _]
  refine x_istore_n C0 (L1 := [some (.ref (ad 211)), some (.int (0 : Int32)), some (.int (nI n)), some (.int (nI n))]) (dkAt dk_J7_copyOfRangeByte_39247 6 rfl) 9 rfl rfl (by decide) rfl ?_
  refine x_iload_n C0 rfl rfl (dkAt dk_J7_copyOfRangeByte_39247 7 rfl) 10 rfl ?_
  refine d_newv (z := 0) C rfl (n := 213) (x := nI n) (N := n) ⟨nI_pos (by omega), nI_clamp (by omega), by omega⟩ (fun hK => ⟨⟨h213, by decide⟩, hz3, hz M hK⟩) ⟨Nat.le_refl _, by show 0 + n ≤ 2200; omega⟩ hl.2.1 (dkAt dk_J7_copyOfRangeByte_39247 8 rfl) 12 rfl rfl rfl (fun p9 hK9 => ?_)
  have hl3 : (l ++ [213]).Nodup := l3_nd hl.1.1.2.2 h213
  have C1 := C.gc hl.2.1 (adu ad 213 p9) (l ++ [213])
  have on211 : On (gc Γ K9 (adu ad 213 p9) (l ++ [213])) 211 (4, 0) := og hl3 (List.mem_append_left _ hl.1.1.2.1) rfl
  have on300 : On (gc Γ K9 (adu ad 213 p9) (l ++ [213])) 213 (4, 0) := og hl3 (List.mem_append_right _ (List.mem_singleton.mpr rfl)) rfl
  have v211 : vlen (sL M 213 0 (lN n)) 211 = m := hB.2.2.1
  have v300 : vlen (sL M 213 0 (lN n)) 213 = n := by
    unfold vlen
    rw [gL_sL, if_pos ⟨rfl, rfl⟩, lN_toInt (by omega)]
    rfl
  have w211 : (adu ad 213 p9) 211 = ad 211 := adu_ne (by decide)
  have w300 : (adu ad 213 p9) 213 = p9 := adu_n
  rw [← w211, ← w300, Nat.zero_add]
  refine x_astore C1 (L1 := [some (.ref (adu ad 213 p9 211)), some (.int (0 : Int32)), some (.int (nI n)), some (.int (nI n)), some (.ref (adu ad 213 p9 213))]) (dkAt dk_J7_copyOfRangeByte_39247 9 rfl) 14 rfl (by decide) rfl ?_
  refine x_aload_n C1 rfl rfl (dkAt dk_J7_copyOfRangeByte_39247 10 rfl) 15 rfl ?_
  refine x_iload_n C1 rfl rfl (dkAt dk_J7_copyOfRangeByte_39247 11 rfl) 16 rfl ?_
  refine x_aload C1 rfl (dkAt dk_J7_copyOfRangeByte_39247 12 rfl) 18 rfl ?_
  refine x_iconst C1 (v := (0 : Int32)) (by decide) (dkAt dk_J7_copyOfRangeByte_39247 13 rfl) 19 rfl ?_
  refine x_aload_n C1 rfl rfl (dkAt dk_J7_copyOfRangeByte_39247 14 rfl) 20 rfl ?_
  refine x_alenv C1 on211 (dkAt dk_J7_copyOfRangeByte_39247 15 rfl) 21 rfl ?_
  rw [show (Int32.ofNat (vlen (sL M 213 0 (lN n)) 211)) = (nI m) from (show Int32.ofNat (vlen (sL M 213 0 (lN n)) 211) = nI m by rw [v211]; rfl)]
  refine x_iload_n C1 rfl rfl (dkAt dk_J7_copyOfRangeByte_39247 16 rfl) 22 rfl ?_
  refine x_isub C1 (dkAt dk_J7_copyOfRangeByte_39247 17 rfl) 23 rfl ?_
  rw [show ((nI m) - (0 : Int32)) = (nI m) from Int32.sub_zero _]
  refine x_iload_n C1 rfl rfl (dkAt dk_J7_copyOfRangeByte_39247 18 rfl) 24 rfl ?_
  refine x_minIv C1 ln_RJ7_304 ⟨Nat.le_of_ble_eq_true rfl, Nat.le_of_ble_eq_true rfl, Nat.le_refl _, by show 0 + n ≤ 2200; omega⟩ (Nat.le_of_ble_eq_true rfl) (dkAt dk_J7_copyOfRangeByte_39247 19 rfl) 27 rfl ?_
  rw [show (if nI n < nI m then nI n else nI m) = (nI n) from if_pos (nI_lt (by omega) (by omega))]
  refine x_copyVV C1 on211 on300 (k := n) (na := 0) (nb := 0) ⟨by rw [v211]; omega, by rw [v300]; exact Nat.le_refl _, by omega⟩ hB.2.2.2.2.2.1 ln_RJ7_150 ⟨Nat.le_of_ble_eq_true rfl, Nat.le_of_ble_eq_true rfl⟩ (Nat.le_of_ble_eq_true rfl) (dkAt dk_J7_copyOfRangeByte_39247 20 rfl) 30 rfl ?_
  refine x_aload C1 rfl (dkAt dk_J7_copyOfRangeByte_39247 21 rfl) 32 rfl ?_
  rw [show sW (sL M 213 0 (lN n)) 213 (fun j => if j < n then gI (sL M 213 0 (lN n)) 211 j else gI (sL M 213 0 (lN n)) 213 j) = rgM M n by rw [rgM, hB.2.2.1, if_neg hnm]; rfl]
  exact d_aret C (Or.inr ⟨_, rfl⟩) E (adu_agr ⟨h213, by decide⟩) (fun h => h) (Nat.le_refl _) (by show 0 + n ≤ 2200; omega) (dkAt dk_J7_copyOfRangeByte_39247 22 rfl)
theorem cb_cor {Γ : WC} (hT : HT Γ) {K9 : Mem → Prop} {l : List Nat} (hl : LB K9 l) {M : Mem} {n m : Nat} (hB : SBM M n m) (hz : ∀ M, K9 M → ∀ o, o ∈ l → ∀ k, gR M o k ≠ some 213) (h213 : 213 ∉ l) (hz3 : (∀ k, gI M 213 k = 0) ∧ (∀ k, gL M 213 k = 0) ∧ ∀ k, gR M 213 k = none) : CtD Γ K9 K9 yJ7_copyOfRange_39247 cJ7_copyOfRange_39247 3 (some (.array .byte)) (rmL 2 1 2200) l (l ++ [213]) [.inr 211, .inl (.int (0 : Int32)), .inl (.int (nI n))] M (some (.inr 213)) (rgM M n) := by
  refine mkD hT.1 (own := RJ7) rfl (by decide) (fun ad => Nat.le_of_ble_eq_true rfl) (fun ad X C hI E => ?_)
  have hN : HB (gc Γ K9 ad l) := hl.hb hT
  have hm : m ≤ 2200 := hB.2.2.2.2.1
  have hcn : n ≤ m := hB.2.2.2.1
  have C0 := C.gc hl.2.1 ad l
  change G (gc Γ K9 ad l) X M 0 0 [some (.ref (wad (gc Γ K9 ad l) 211)), some (.int (0 : Int32)), some (.int (nI n))] [] 0
  refine x_iload_n C0 rfl rfl (dkAt dk_J7_copyOfRange_39247 0 rfl) 1 rfl ?_
  refine xiF_ne C0 (fun z => z rfl) 10 (dkAt dk_J7_copyOfRange_39247 1 rfl) (by decide) 4 rfl ?_
  refine x_iload_n C0 rfl rfl (dkAt dk_J7_copyOfRange_39247 2 rfl) 5 rfl ?_
  refine x_aload_n C0 rfl rfl (dkAt dk_J7_copyOfRange_39247 3 rfl) 6 rfl ?_
  refine x_alenv C0 hN.2.2.1 (dkAt dk_J7_copyOfRange_39247 4 rfl) 7 rfl ?_
  rw [show (Int32.ofNat (vlen M 211)) = (nI m) from (show Int32.ofNat (vlen M 211) = nI m by rw [hB.2.2.1]; rfl)]
  by_cases hnm : n = m
  · refine xcT_eq C0 (by rw [hnm]) 17 (dkAt dk_J7_copyOfRange_39247 5 rfl) (by decide) ?_
    refine x_aload_n C0 rfl rfl (dkAt dk_J7_copyOfRange_39247 11 rfl) 18 rfl ?_
    change G (gc Γ K9 ad l) X M 0 0 _ [.ref (ad 211)] 18
    refine d_clone (z := 0) C rfl (n := 213) hN.2.2.1 hB.2.2.1 (by omega) hB.2.2.2.2.2.1 (fun hK => ⟨⟨h213, by decide⟩, hz3, hz M hK⟩) ⟨Nat.le_refl _, by show 0 + m ≤ 2200; omega⟩ ⟨Nat.le_of_ble_eq_true rfl, Nat.le_of_ble_eq_true rfl⟩ (Nat.le_of_ble_eq_true rfl) hl.2.1 wc1 wc2 wc3 wc4 wc5 wc6 (dkAt dk_J7_copyOfRange_39247 12 rfl) 21 rfl rfl rfl (fun p9 hK9 => ?_)
    have hl3 : (l ++ [213]).Nodup := l3_nd hl.1.1.2.2 h213
    have C1 := C.gc hl.2.1 (adu ad 213 p9) (l ++ [213])
    have on300 : On (gc Γ K9 (adu ad 213 p9) (l ++ [213])) 213 (4, 0) := og hl3 (List.mem_append_right _ (List.mem_singleton.mpr rfl)) rfl
    have w300 : (adu ad 213 p9) 213 = p9 := adu_n
    rw [← w300]
    rw [show clM M 213 = rgM M n by rw [rgM, hB.2.2.1, if_pos hnm]]
    refine x_castV C1 on300 wc7 (dkAt dk_J7_copyOfRange_39247 13 rfl) 24 rfl ?_
    exact d_aret C (Or.inr ⟨_, rfl⟩) E (adu_agr ⟨h213, by decide⟩) (fun h => h) (Nat.le_refl _) (by show 0 + m ≤ 2200; omega) (dkAt dk_J7_copyOfRange_39247 14 rfl)
  · refine xcF_eq C0 (fun z => hnm ((nI_eq (by omega) (by omega)).mp z)) 17 (dkAt dk_J7_copyOfRange_39247 5 rfl) (by decide) 10 rfl ?_
    refine x_aload_n C0 rfl rfl (dkAt dk_J7_copyOfRange_39247 6 rfl) 11 rfl ?_
    refine x_iload_n C0 rfl rfl (dkAt dk_J7_copyOfRange_39247 7 rfl) 12 rfl ?_
    refine x_iload_n C0 rfl rfl (dkAt dk_J7_copyOfRange_39247 8 rfl) 13 rfl ?_
    refine G.weak (L := [none, some (.int (0 : Int32)), some (.int (nI n))]) (by simp [LSub]) ?_
    refine d_cS C (cb_corB hT hl hB hz h213 hz3 hnm) mw_J7_copyOfRangeByte_39247 ln_RJ7_339 ms_J7_copyOfRangeByte_39247 (ro_of (by decide) (by decide) (by decide) (by decide)) rfl agr.rfl (fun _ h => h) (L := [none, some (.inl (.int (0 : Int32))), some (.inl (.int (nI n)))]) (st := []) rfl rfl (hl.sL rfl) (hl.sS rfl) (Nat.le_of_ble_eq_true rfl) (dkAt dk_J7_copyOfRange_39247 9 rfl) 16 rfl rfl rfl (fun hK1 ad1 hag1 => ?_)
    exact d_aret C (Or.inr ⟨_, rfl⟩) E hag1 (fun h => h) (Nat.le_refl _) (Nat.le_refl _) (dkAt dk_J7_copyOfRange_39247 10 rfl)
theorem x_aretN {Γ : WC} {X : MX} {M : Mem} {cs sl : Nat} {L : List (Option Value)} {pc : Nat} {cc : ByteArray} {nL : Nat} {own : String} {R0 : Room} {mc ms o : Nat} {ty : FieldType} (C : CX Γ X cc nL own (some ty) R0) (hty : (∃ n, ty = FieldType.object n) ∨ ∃ t, ty = FieldType.array t) (E : EndN Γ X (some (.ref o)) M mc ms) (hc : cs ≤ mc) (hs : sl ≤ ms) (d : decode cc pc = .ok (.areturn, 1)) : G Γ X M cs sl L [.ref o] pc := by
  obtain ⟨p, e, R, s, m, args, below, meth, c, Q⟩ := X
  obtain ⟨hx, hb, hml, hown, hts, hW, hlk, hret, hR, hK, hSs, hG⟩ := C
  intro H locs ls a1 a2 a3 a4 a5
  refine W.widen hc hs ?_
  rw [show Q = _ from E]
  exact W.aret hx hb hret hty (Or.inr ⟨_, rfl⟩) (fun t ht hW1 => ⟨rfl, a1, State.WarmedH.trans hW hW1, by rw [ht]; exact S_nil a4, by rw [ht]; exact a2, a3⟩) a4.2.2 d hlk
theorem cb_getValue {Γ : WC} (hN : HB Γ) {M : Mem} {n m : Nat} (hB : SBM M n m) : Ct Γ yJ5_getValue_6d5f1 cJ5_getValue_6d5f1 1 (some (.array .byte)) (rmL 0 0 0) [.ref (wad Γ 210)] M (some (.ref (wad Γ 211))) M := by
  refine mkN hN.1.1 (own := RJ5) rfl (by decide) (Nat.le_of_ble_eq_true rfl) (fun X C E => ?_)
  change G Γ X M 0 0 [some (.ref (wad Γ 210))] [] 0
  refine x_aload_n C rfl rfl (dkAt dk_J5_getValue_6d5f1 0 rfl) 1 rfl ?_
  refine x_getS C lk_RJ5_15 hN.2.1 hN.2.2.2 (dkAt dk_J5_getValue_6d5f1 1 rfl) 4 rfl ?_
  exact x_aretN C (Or.inr ⟨_, rfl⟩) E (Nat.le_refl _) (Nat.le_refl _) (dkAt dk_J5_getValue_6d5f1 2 rfl)
