/-! contexts once the class's objects are there: all numbers below b -/
def lB (b : Nat) : List Nat := lC 108 ++ List.range' 212 (b - 212)
theorem lL_iff {o : Nat} : o ∈ lL ↔ 108 ≤ o ∧ o < 212 := by
  constructor
  · intro h
    rcases List.mem_append.mp h with h | h
    · simp only [List.mem_cons, List.not_mem_nil, or_false] at h
      omega
    · have := List.mem_range'_1.mp h
      omega
  · intro h
    by_cases h2 : 110 ≤ o ∧ o < 210
    · exact List.mem_append_right _ (List.mem_range'_1.mpr (by omega))
    · refine List.mem_append_left _ ?_
      simp only [List.mem_cons, List.not_mem_nil, or_false]
      omega
theorem lB_iff {b o : Nat} (hb : 212 ≤ b) : o ∈ lB b ↔ o < b := by
  constructor
  · intro h
    rcases List.mem_append.mp h with h | h
    · rcases List.mem_append.mp h with h | h
      · have := lL_iff.mp h
        omega
      · have := List.mem_range.mp h
        omega
    · have := List.mem_range'_1.mp h
      omega
  · intro h
    by_cases h1 : o < 108
    · exact List.mem_append_left _ (lC_mem h1)
    · by_cases h2 : o < 212
      · exact List.mem_append_left _ (List.mem_append_left _ (lL_iff.mpr (by omega)))
      · exact List.mem_append_right _ (List.mem_range'_1.mpr (by omega))
theorem lB_nd (b : Nat) : (lB b).Nodup := by
  refine List.nodup_append.mpr ⟨lC_nodup (by decide), List.nodup_range', fun a ha c hc e => ?_⟩
  have h1 := List.mem_range'_1.mp hc
  rcases List.mem_append.mp ha with h | h
  · have := lL_iff.mp h
    omega
  · have := List.mem_range.mp h
    omega
theorem lB_1 {b : Nat} (hb : 212 ≤ b) : lB b ++ [b] = lB (b + 1) := by
  have h := List.range'_append (s := 212) (m := b - 212) (n := 1) (step := 1)
  rw [Nat.one_mul, show 212 + (b - 212) = b by omega] at h
  have h2 : List.range' 212 (b - 212) ++ [b] = List.range' 212 (b + 1 - 212) := by
    rw [show b + 1 - 212 = b - 212 + 1 by omega]
    exact h
  show lC 108 ++ List.range' 212 (b - 212) ++ [b] = lC 108 ++ List.range' 212 (b + 1 - 212)
  rw [List.append_assoc, h2]
theorem lB_0 : lB 212 = lC 108 := List.append_nil _
def KB (b : Nat) (M : Mem) : Prop := (SRok M ∧ (∀ o k j, srV o k = some j → gR M o k = some j) ∧ gR M 210 0 = some 211 ∧ (214 ≤ b → gR M 212 0 = some 213)) ∧ (∀ o k j, gR M o k = some j → j < b ∨ j = 999) ∧ RR M
theorem krB (b : Nat) : KR (KB b) := fun M M' h hM => ⟨⟨fun o k j hj => by rw [h]; exact hM.1.1 o k j hj, fun o k j hj => by rw [h]; exact hM.1.2.1 o k j hj, by rw [h]; exact hM.1.2.2.1, fun hb => by rw [h]; exact hM.1.2.2.2 hb⟩, fun o k j hj => hM.2.1 o k j (by rw [← h]; exact hj), ⟨fun o k hk => hM.2.2.1 o k (by rw [← h]; exact hk), fun o k hk => hM.2.2.2 o k (by rw [← h]; exact hk)⟩⟩
def shB (b o : Nat) : Option SE := if o < b then SHF o else none
theorem shB_at {b o : Nat} {e : SE} (h : shB b o = some e) : o < b ∧ SHF o = some e := by
  unfold shB at h
  split at h
  · exact ⟨‹_›, h⟩
  · exact nomatch h
theorem ob {Γ : WC} {K : Mem → Prop} {ad : Nat → Nat} {b o : Nat} {e : SE} (hb : 212 ≤ b) (ho : o < b) (he : SHF o = some e) : On (gc Γ K ad (lB b)) o e := og (lB_nd b) ((lB_iff hb).mpr ho) he
theorem hL4 {Γ : WC} (hT : HT Γ) {b : Nat} (hb : 212 ≤ b) (ad : Nat → Nat) : HLa (gc Γ (KB b) ad (lB b)) (shB b) := ⟨hT.gc (krB b) ad (lB b), fun o e h => ob hb (by have := (shL_at h).1; omega) (shL_at h).2, fun o e h => ob hb (shB_at h).1 (shB_at h).2, fun o k j h M hM => hM.1.2.1 o k j h⟩
theorem srV_lo {o k j : Nat} (h : srV o k = some j) : o = 108 ∨ o = 109 := by
  unfold srV at h
  split at h <;> first | exact Or.inl rfl | exact Or.inr rfl | exact nomatch h
theorem hN4 {Γ : WC} (hT : HT Γ) {b : Nat} (hb : 212 ≤ b) (hb2 : b ≤ 300) (ad : Nat → Nat) : HN (gc Γ (KB b) ad (lB b)) := by
  refine ⟨hT.1.gc (krB b) ad (lB b), fun o e h => ?_, fun o k j h M hM => hM.1.1 o k j h, fun o k v ho hv hs M hM => ?_, hT.2⟩
  · have ho := shlt h
    exact ob hb (by omega) (by unfold SHF; rw [if_pos ho]; exact h)
  · refine ⟨⟨fun a c j hj => ?_, fun a c j hj => ?_, ?_, fun h214 => ?_⟩, fun a c j hj => ?_, ⟨fun a c hj => ?_, fun a c hj => ?_⟩⟩
    · rw [gR_sR]
      split
      · rename_i hac
        rw [hac.1, hac.2, hs] at hj
        exact nomatch hj
      · exact hM.1.1 a c j hj
    · rw [gR_sR, if_neg (by have := srV_lo hj; omega)]
      exact hM.1.2.1 a c j hj
    · rw [gR_sR, if_neg (by omega)]
      exact hM.1.2.2.1
    · rw [gR_sR, if_neg (by omega)]
      exact hM.1.2.2.2 h214
    · rw [gR_sR] at hj
      split at hj
      · have := Option.some.inj hj
        omega
      · exact hM.2.1 a c j hj
    · rw [gR_sR] at hj
      split at hj
      · have := Option.some.inj hj
        omega
      · exact hM.2.2.1 a c hj
    · rw [gR_sR] at hj
      split at hj
      · have := Option.some.inj hj
        omega
      · exact hM.2.2.2 a c hj
theorem hTX4 {Γ : WC} (hT : HT Γ) {b : Nat} (hb : 214 ≤ b) (ad : Nat → Nat) : HTX (gc Γ (KB b) ad (lB b)) := ⟨hT.gc (krB b) ad (lB b), ob (by omega) (by omega) rfl, ob (by omega) (by omega) rfl, fun M hM => hM.1.2.2.2 hb⟩
/-- a context that may be widened by rows that are dropped again -/
def HF (Γ : WC) : Prop := wsh Γ = SHF ∧ (wnl Γ).Nodup ∧ (∀ o, o ∈ wnl Γ → o < 300) ∧ ∀ M, wK Γ M → ∀ o k j, gR M o k = some j → j < 300 ∨ j = 999
theorem hF4 {Γ : WC} {b : Nat} (hb : 212 ≤ b) (hb2 : b ≤ 300) (ad : Nat → Nat) : HF (gc Γ (KB b) ad (lB b)) := ⟨rfl, lB_nd b, fun o ho => by have := (lB_iff hb).mp ho; omega, fun M hM o k j hj => by have := hM.2.1 o k j hj; omega⟩
def zapT (M : Mem) : Mem := (fun o k => if 320 ≤ o ∧ o < 361 then 0 else M.1 o k, fun o k => if 320 ≤ o ∧ o < 361 then 0 else M.2.1 o k, M.2.2)
def ZT (M : Mem) : Prop := ∀ o, 320 ≤ o → o < 361 → zeroM o M
theorem zapT_I {M : Mem} {o k : Nat} (h : o < 320) : gI (zapT M) o k = gI M o k := by
  show (if 320 ≤ o ∧ o < 361 then 0 else M.1 o k) = _
  rw [if_neg (by omega)]
  rfl
theorem zapT_L {M : Mem} {o k : Nat} (h : o < 320) : gL (zapT M) o k = gL M o k := by
  show (if 320 ≤ o ∧ o < 361 then 0 else M.2.1 o k) = _
  rw [if_neg (by omega)]
  rfl
theorem zapT_cE {dA : Nat → ClassId} {ad : Nat → Nat} {M : Mem} {o : Nat} (h : o < 320) (s : SE) : cE dA ad (zapT M) o s = cE dA ad M o s := by
  have h1 : gI (zapT M) o = gI M o := funext fun k => zapT_I h
  have h2 : gL (zapT M) o = gL M o := funext fun k => zapT_L h
  have h3 : gR (zapT M) o = gR M o := rfl
  have h4 : ∀ j q, fVal ad (zapT M) o j q = fVal ad M o j q := fun j q => by simp only [fVal, h1, h2, h3]
  simp only [cE, vlen, fsO, h1, h2, h3, h4]
theorem G.drop {Γ : WC} {K9 : Mem → Prop} {X : MX} {M : Mem} {cs sl : Nat} {L : List (Option Value)} {st : List Value} {pc : Nat} {ad ad1 : Nat → Nat} {l T : List Nat} (hKR : KR K9) (had : ∀ o, o < 320 ∨ o = 999 → ad1 o = ad o) (hl : ∀ o, o ∈ l → o < 300) (hr : K9 M → ∀ o k j, gR M o k = some j → j < 300 ∨ j = 999) (k : G (gc Γ K9 ad l) X (zapT M) cs sl L st pc) : G (gc Γ K9 ad1 (l ++ T)) X M cs sl L st pc := by
  obtain ⟨p, e, R, s, m, args, below, meth, c, Q⟩ := X
  intro H locs ls a1 a2 a3 a4 a5
  have hw : wO (gc Γ K9 ad1 (l ++ T)) M = wO (gc Γ K9 ad l) (zapT M) ++ T.map (wCell (gc Γ K9 ad1 (l ++ T)) M) := by
    show (l ++ T).map _ = l.map _ ++ _
    rw [List.map_append]
    congr 1
    apply List.map_congr_left
    intro o ho
    have h3 := hl o ho
    show (ad1 o, cE (wA Γ) ad1 M o ((SHF o).getD (0, 0))) = (ad o, cE (wA Γ) ad (zapT M) o ((SHF o).getD (0, 0)))
    rw [had o (Or.inl (by omega)), zapT_cE (by omega), cE_ad (ad := ad) (ad1 := ad1) (fun k j hj => had j (by have := hr a1 o k j hj; omega))]
  rw [hw] at a2 a3
  refine k H locs ls (hKR M _ (fun _ _ => rfl) a1) (fun i q hi => a2 i q ?_) ⟨fun i j x y hi hj hxy => a3.1 i j x y ?_ ?_ hxy, fun i x hi => a3.2 i x ?_⟩ a4 a5
  · rw [List.getElem?_append_left (List.getElem?_eq_some_iff.mp hi).1]
    exact hi
  · rw [List.getElem?_append_left (List.getElem?_eq_some_iff.mp hi).1]
    exact hi
  · rw [List.getElem?_append_left (List.getElem?_eq_some_iff.mp hj).1]
    exact hj
  · rw [List.getElem?_append_left (List.getElem?_eq_some_iff.mp hi).1]
    exact hi
/-- a row for a while -/
theorem d_newt {Γ : WC} {K9 : Mem → Prop} {X : MX} {M : Mem} {cs sl : Nat} {pc : Nat} {cc : ByteArray} {nL : Nat} {own : String} {ret : Option FieldType} {R0 : Room} {ad : Nat → Nat} {l : List Nat} {n : Nat} {L1 : List (Option Value)} {st1 : List Value} {atype : ArrayType} {ty : FieldType} {N k cs1 sl1 : Nat} {x : Int32} (C : CX Γ X cc nL own ret R0) (hsh : SHF n = some (k, N)) (hk : k < 4) (htys : (tysA (wA Γ))[k]? = some (wA Γ k, ty)) (harr : Gd (.arrayClass ty)) (hty : newarray.typeOf atype = ty) (hdf : ∀ cA : ClassId, vp_cell cA (zA k N) = arrV cA N (fun _ => defaultValue ty)) (hx : ¬ x < 0 ∧ x.toNatClampNeg = N ∧ N * componentBytes ty ≤ 536870912) (hz : K9 M → NZ n l M) (hR : cs + 1 ≤ R0.cells ∧ sl + N ≤ R0.slots) (d : decode cc pc = .ok (.newarray atype, 2)) (q : Nat) (hq : pc + 2 = q) (ec : cs + 1 = cs1) (es : sl + N = sl1) (K : ∀ p9, G (gc Γ K9 (adu ad n p9) (l ++ [n])) X M cs1 sl1 L1 (.ref p9 :: st1) q) : G (gc Γ K9 ad l) X M cs sl L1 (.int x :: st1) pc := by
  subst hq; subst ec; subst es
  obtain ⟨p, e, R, s, m, args, below, meth, c, Q⟩ := X
  obtain ⟨hx1, hb, hml, hown, hts, hW, hlk, hret, rfl, hK, hSs, hG⟩ := C
  intro H locs ls a1 a2 a3 a4 a5
  have hz := hz a1
  refine va_newa hx1 hb (by rw [hty]; exact hts _ harr) hty hK a2 a3 a4 (fun q h => h) (a0 := zA k N) hdf hx.1 hx.2.1 hx.2.2 hR.1 hR.2 d (fun q cA H1 hK1 hP hD hS => ?_)
  have hcA : cA = wA Γ k := by
    have h1 := (hK1.2 (tysA (wA Γ)).length (cA, ty) (by rw [List.getElem?_append_right (Nat.le_refl _), Nat.sub_self]; rfl)).2
    exact ra_inj h1 (hK.2 k (wA Γ k, ty) htys).2
  subst hcA
  have hw := wO_new (Γ := Γ) (K := K9) (ad := ad) (q := q) hz hsh
  rw [cE_zA hz k hk] at hw
  exact K q H1 locs ls a1 (by rw [hw]; exact hP) (by rw [hw]; exact hD) hS a5

def f_X12_flow_L46 (sh : Nat → Option SE) (Z : Nat) (p0 : Int32) (p1 : Int32) (now : Nat) (s9 : Nat) (k9 : Int32) (thn : Nat) (c : Nat) (x1 : Int32) (k : Mem → Option (Int64 × Mem)) : Nat → Int32 → Mem → Option (Int64 × Mem)
  | 0, _, _ => none
  | n + 1, x4, M5 => bd (gI M5 (109) 1) (fun v6 => (if v6 ≤ x4 then k M5 else rdL M5 thn s9 x4 (fun v7 => rdL M5 now s9 x1 (fun v8 => cl (f_X12_step sh Z M5 x1 x4) (fun v9 M10 => wrL M10 thn s9 x4 (v7 + (v8 * v9.toInt64)) (fun M12 => f_X12_flow_L46 sh Z p0 p1 now s9 k9 thn c x1 k n (x4 + (1 : Int32)) M12))))))
def f_X12_flow_L34 (sh : Nat → Option SE) (Z : Nat) (p0 : Int32) (p1 : Int32) (now : Nat) (s9 : Nat) (k9 : Int32) (thn : Nat) (c : Nat) (k : Mem → Option (Int64 × Mem)) : Nat → Int32 → Mem → Option (Int64 × Mem)
  | 0, _, _ => none
  | n + 1, x1, M2 => bd (gI M2 (109) 1) (fun v3 => (if v3 ≤ x1 then k M2 else f_X12_flow_L46 sh Z p0 p1 now s9 k9 thn c x1 (fun (M13 : Mem) => f_X12_flow_L34 sh Z p0 p1 now s9 k9 thn c k n (x1 + (1 : Int32)) M13) Z (0 : Int32) M2))
def f_X12_flow_i (sh : Nat → Option SE) (Z : Nat) (p0 p1 : Int32) (now s9 : Nat) (k9 : Int32) (thn c : Nat) (kx : Mem → Option (Int64 × Mem)) (M : Mem) : Option (Int64 × Mem) :=
  f_X12_flow_L34 sh Z p0 p1 now s9 k9 thn c (fun (M14 : Mem) => kx M14) Z (0 : Int32) M
set_option maxRecDepth 100000 in
theorem l_X12_flow_L46 {Γ : WC} {X : MX} {sh : Nat → Option SE} (hL : HLa Γ sh) (C : CX Γ X cX12_flow 8 RX12 (some .long) (rmL 3 6 (6 * 6))) {rM : Int64 × Mem} (E : True) {Z : Nat} {p0 : Int32} {p1 : Int32} {now : Nat} {s9 : Nat} {k9 : Int32} {thn : Nat} {c : Nat} {x1 : Int32} (hc6 : c + 0 ≤ 6) (h_now : On Γ now (1, s9)) (h_thn : On Γ thn (1, s9)) {k : Mem → Option (Int64 × Mem)} (hk : ∀  (Mx : Mem), k Mx = some rM → G Γ X Mx c (6 * c) [some (.ref (wad Γ 109)), some (.int p0), some (.int p1), some (.ref (wad Γ now)), some (.int k9), some (.ref (wad Γ thn)), some (.int x1)] [] 83) : ∀ (n : Nat) (x4 : Int32) (M5 : Mem), f_X12_flow_L46 sh Z p0 p1 now s9 k9 thn c x1 k n x4 M5 = some rM → G Γ X M5 c (6 * c) [some (.ref (wad Γ 109)), some (.int p0), some (.int p1), some (.ref (wad Γ now)), some (.int k9), some (.ref (wad Γ thn)), some (.int x1), some (.int x4)] [] 46 := by
  intro n
  induction n with
  | zero =>
    intro x4 M5 hf
    have hf0 : (none : Option _) = some rM := hf
    cases hf0
  | succ n ih =>
    intro x4 M5 hf
    rw [f_X12_flow_L46] at hf
    refine x_iload C rfl (dkAt dk_X12_flow 26 rfl) 48 rfl ?_
    refine x_aload_n C rfl rfl (dkAt dk_X12_flow 27 rfl) 49 rfl ?_
    refine x_getI C lk_RX12_67 (hL.2.1 109 (18, 17) rfl) (dkAt dk_X12_flow 28 rfl) 52 rfl hf (fun v6 hf => ?_)
    refine x_icmp_ge C 83 (dkAt dk_X12_flow 29 rfl) 55 rfl (by decide) hf (fun hf => ?_) (fun hf => ?_)
    · exact G.weak (L := [some (.ref (wad Γ 109)), some (.int p0), some (.int p1), some (.ref (wad Γ now)), some (.int k9), some (.ref (wad Γ thn)), some (.int x1)]) ⟨rfl, rfl, rfl, rfl, rfl, rfl, rfl, trivial⟩ (hk _ hf)
    · refine x_aload C rfl (dkAt dk_X12_flow 30 rfl) 57 rfl ?_
      refine x_iload C rfl (dkAt dk_X12_flow 31 rfl) 59 rfl ?_
      refine x_dup2 C rfl rfl (dkAt dk_X12_flow 32 rfl) 60 rfl ?_
      refine x_lald C h_thn (dkAt dk_X12_flow 33 rfl) 61 rfl hf (fun v7 hf => ?_)
      refine x_aload_n C rfl rfl (dkAt dk_X12_flow 34 rfl) 62 rfl ?_
      refine x_iload C rfl (dkAt dk_X12_flow 35 rfl) 64 rfl ?_
      refine x_lald C h_now (dkAt dk_X12_flow 36 rfl) 65 rfl hf (fun v8 hf => ?_)
      refine x_aload_n C rfl rfl (dkAt dk_X12_flow 37 rfl) 66 rfl ?_
      refine x_iload C rfl (dkAt dk_X12_flow 38 rfl) 68 rfl ?_
      refine x_iload C rfl (dkAt dk_X12_flow 39 rfl) 70 rfl ?_
      have hc : c + 0 ≤ 6 := hc6
      obtain ⟨v9, M10, h11, hf⟩ := cl_inv hf
      refine x_cVi C (c_X12_step hL h11) mw_X12_step ln_RX12_126 mi_X12_step (show RC _ 109 RX12 from ⟨12, 17, _, (hL.2.1 109 (18, 17) rfl), rc12, rfl⟩) (ro_c (k := 0) (by decide) (by decide) hc (by decide)) rfl rfl (Nat.le_of_ble_eq_true rfl) (dkAt dk_X12_flow 40 rfl) 73 rfl _ _ rfl rfl ?_
      change G Γ X M10 c (6 * c) [some (.ref (wad Γ 109)), some (.int p0), some (.int p1), some (.ref (wad Γ now)), some (.int k9), some (.ref (wad Γ thn)), some (.int x1), some (.int x4)] [.int v9, .long v8, .long v7, .int x4, .ref (wad Γ thn)] 73
      refine x_i2l C (dkAt dk_X12_flow 41 rfl) 74 rfl ?_
      refine x_lmul C (dkAt dk_X12_flow 42 rfl) 75 rfl ?_
      refine x_ladd C (dkAt dk_X12_flow 43 rfl) 76 rfl ?_
      refine x_last C h_thn (dkAt dk_X12_flow 44 rfl) 77 rfl hf (fun M12 hf => ?_)
      refine x_iinc C (v := (x4 + (1 : Int32))) (L1 := [some (.ref (wad Γ 109)), some (.int p0), some (.int p1), some (.ref (wad Γ now)), some (.int k9), some (.ref (wad Γ thn)), some (.int x1), some (.int (x4 + (1 : Int32)))]) (dkAt dk_X12_flow 45 rfl) 80 rfl rfl rfl (by decide) rfl ?_
      refine x_goto C 46 (dkAt dk_X12_flow 46 rfl) (by decide) ?_
      exact G.weak (L := [some (.ref (wad Γ 109)), some (.int p0), some (.int p1), some (.ref (wad Γ now)), some (.int k9), some (.ref (wad Γ thn)), some (.int x1), some (.int (x4 + (1 : Int32)))]) ⟨rfl, rfl, rfl, rfl, rfl, rfl, rfl, rfl, trivial⟩ (ih _ _ hf)
set_option maxRecDepth 100000 in
theorem l_X12_flow_L34 {Γ : WC} {X : MX} {sh : Nat → Option SE} (hL : HLa Γ sh) (C : CX Γ X cX12_flow 8 RX12 (some .long) (rmL 3 6 (6 * 6))) {rM : Int64 × Mem} (E : True) {Z : Nat} {p0 : Int32} {p1 : Int32} {now : Nat} {s9 : Nat} {k9 : Int32} {thn : Nat} {c : Nat} (hc6 : c + 0 ≤ 6) (h_now : On Γ now (1, s9)) (h_thn : On Γ thn (1, s9)) {k : Mem → Option (Int64 × Mem)} (hk : ∀  (Mx : Mem), k Mx = some rM → G Γ X Mx c (6 * c) [some (.ref (wad Γ 109)), some (.int p0), some (.int p1), none, some (.int k9), some (.ref (wad Γ thn))] [] 89) : ∀ (n : Nat) (x1 : Int32) (M2 : Mem), f_X12_flow_L34 sh Z p0 p1 now s9 k9 thn c k n x1 M2 = some rM → G Γ X M2 c (6 * c) [some (.ref (wad Γ 109)), some (.int p0), some (.int p1), some (.ref (wad Γ now)), some (.int k9), some (.ref (wad Γ thn)), some (.int x1)] [] 34 := by
  intro n
  induction n with
  | zero =>
    intro x1 M2 hf
    have hf0 : (none : Option _) = some rM := hf
    cases hf0
  | succ n ih =>
    intro x1 M2 hf
    rw [f_X12_flow_L34] at hf
    refine x_iload C rfl (dkAt dk_X12_flow 20 rfl) 36 rfl ?_
    refine x_aload_n C rfl rfl (dkAt dk_X12_flow 21 rfl) 37 rfl ?_
    refine x_getI C lk_RX12_67 (hL.2.1 109 (18, 17) rfl) (dkAt dk_X12_flow 22 rfl) 40 rfl hf (fun v3 hf => ?_)
    refine x_icmp_ge C 89 (dkAt dk_X12_flow 23 rfl) 43 rfl (by decide) hf (fun hf => ?_) (fun hf => ?_)
    · exact G.weak (L := [some (.ref (wad Γ 109)), some (.int p0), some (.int p1), none, some (.int k9), some (.ref (wad Γ thn))]) ⟨rfl, rfl, rfl, rfl, rfl, trivial⟩ (hk _ hf)
    · refine x_iconst C (v := (0 : Int32)) (by decide) (dkAt dk_X12_flow 24 rfl) 44 rfl ?_
      refine x_istore C (L1 := [some (.ref (wad Γ 109)), some (.int p0), some (.int p1), some (.ref (wad Γ now)), some (.int k9), some (.ref (wad Γ thn)), some (.int x1), some (.int (0 : Int32))]) (dkAt dk_X12_flow 25 rfl) 46 rfl (by decide) rfl ?_
      refine G.weak (L := [some (.ref (wad Γ 109)), some (.int p0), some (.int p1), some (.ref (wad Γ now)), some (.int k9), some (.ref (wad Γ thn)), some (.int x1), some (.int (0 : Int32))]) ⟨rfl, rfl, rfl, rfl, rfl, rfl, rfl, rfl, trivial⟩ ?_
      refine l_X12_flow_L46 hL C E hc6 h_now h_thn ?_ Z _ _ hf
      intro M13 hf
      refine x_iinc C (v := (x1 + (1 : Int32))) (L1 := [some (.ref (wad Γ 109)), some (.int p0), some (.int p1), some (.ref (wad Γ now)), some (.int k9), some (.ref (wad Γ thn)), some (.int (x1 + (1 : Int32)))]) (dkAt dk_X12_flow 47 rfl) 86 rfl rfl rfl (by decide) rfl ?_
      refine x_goto C 34 (dkAt dk_X12_flow 48 rfl) (by decide) ?_
      exact G.weak (L := [some (.ref (wad Γ 109)), some (.int p0), some (.int p1), some (.ref (wad Γ now)), some (.int k9), some (.ref (wad Γ thn)), some (.int (x1 + (1 : Int32)))]) ⟨rfl, rfl, rfl, rfl, rfl, rfl, rfl, trivial⟩ (ih _ _ hf)
set_option maxRecDepth 100000 in
theorem i_X12_flow {Γ : WC} {X : MX} {sh : Nat → Option SE} (hL : HLa Γ sh) (C : CX Γ X cX12_flow 8 RX12 (some .long) (rmL 3 6 (6 * 6))) {rM : Int64 × Mem} (E : True) {Z now s9 thn c : Nat} {p0 p1 k9 : Int32} (hc6 : c + 0 ≤ 6) (h_now : On Γ now (1, s9)) (h_thn : On Γ thn (1, s9)) {kx : Mem → Option (Int64 × Mem)} {M : Mem} (hkx : ∀ M1, kx M1 = some rM → G Γ X M1 c (6 * c) [some (.ref (wad Γ 109)), some (.int p0), some (.int p1), none, some (.int k9), some (.ref (wad Γ thn))] [] 89) (hf : f_X12_flow_i sh Z p0 p1 now s9 k9 thn c kx M = some rM) : G Γ X M c (6 * c) [some (.ref (wad Γ 109)), some (.int p0), some (.int p1), some (.ref (wad Γ now)), some (.int k9), some (.ref (wad Γ thn))] [] 31 := by
  unfold f_X12_flow_i at hf
  refine x_iconst C (v := (0 : Int32)) (by decide) (dkAt dk_X12_flow 18 rfl) 32 rfl ?_
  refine x_istore C (L1 := [some (.ref (wad Γ 109)), some (.int p0), some (.int p1), some (.ref (wad Γ now)), some (.int k9), some (.ref (wad Γ thn)), some (.int (0 : Int32))]) (dkAt dk_X12_flow 19 rfl) 34 rfl (by decide) rfl ?_
  refine G.weak (L := [some (.ref (wad Γ 109)), some (.int p0), some (.int p1), some (.ref (wad Γ now)), some (.int k9), some (.ref (wad Γ thn)), some (.int (0 : Int32))]) ⟨rfl, rfl, rfl, rfl, rfl, rfl, rfl, trivial⟩ ?_
  refine l_X12_flow_L34 hL C E hc6 h_now h_thn ?_ Z _ _ hf
  intro M14 hf
  exact G.weak (L := [some (.ref (wad Γ 109)), some (.int p0), some (.int p1), none, some (.int k9), some (.ref (wad Γ thn))]) ⟨rfl, rfl, rfl, rfl, rfl, trivial⟩ (hkx _ hf)
