/-! contexts once the class's objects are there: all numbers below b -/
def lB (b : Nat) : List Nat := lC 108 ++ List.range' 212 (b - 212)
theorem lL_iff {o : Nat} : o ∈ lL ↔ 108 ≤ o ∧ o < 212 := by
  constructor
  · intro h
    rcases List.mem_append.mp h with h | h
    · simp only [List.mem_cons, List.not_mem_nil, or_false] at h
      omega
    · have := List.mem_range'_1.mp h
      omega
  · intro h
    by_cases h2 : 110 ≤ o ∧ o < 210
    · exact List.mem_append_right _ (List.mem_range'_1.mpr (by omega))
    · refine List.mem_append_left _ ?_
      simp only [List.mem_cons, List.not_mem_nil, or_false]
      omega
theorem lB_iff {b o : Nat} (hb : 212 ≤ b) : o ∈ lB b ↔ o < b := by
  constructor
  · intro h
    rcases List.mem_append.mp h with h | h
    · rcases List.mem_append.mp h with h | h
      · have := lL_iff.mp h
        omega
      · have := List.mem_range.mp h
        omega
    · have := List.mem_range'_1.mp h
      omega
  · intro h
    by_cases h1 : o < 108
    · exact List.mem_append_left _ (lC_mem h1)
    · by_cases h2 : o < 212
      · exact List.mem_append_left _ (List.mem_append_left _ (lL_iff.mpr (by omega)))
      · exact List.mem_append_right _ (List.mem_range'_1.mpr (by omega))
theorem lB_nd (b : Nat) : (lB b).Nodup := by
  refine List.nodup_append.mpr ⟨lC_nodup (by decide), List.nodup_range', fun a ha c hc e => ?_⟩
  have h1 := List.mem_range'_1.mp hc
  rcases List.mem_append.mp ha with h | h
  · have := lL_iff.mp h
    omega
  · have := List.mem_range.mp h
    omega
theorem lB_1 {b : Nat} (hb : 212 ≤ b) : lB b ++ [b] = lB (b + 1) := by
  unfold lB
  rw [List.append_assoc]
  congr 1
  have h := List.range'_append (s := 212) (m := b - 212) (n := 1) (step := 1)
  rw [Nat.one_mul, show 212 + (b - 212) = b by omega] at h
  rw [show b + 1 - 212 = b - 212 + 1 by omega, ← h]
  rfl
theorem lB_0 : lB 212 = lC 108 := List.append_nil _
def KB (b : Nat) (M : Mem) : Prop := (SRok M ∧ (∀ o k j, srV o k = some j → gR M o k = some j) ∧ gR M 210 0 = some 211 ∧ (214 ≤ b → gR M 212 0 = some 213)) ∧ (∀ o k j, gR M o k = some j → j < b ∨ j = 999) ∧ RR M
theorem krB (b : Nat) : KR (KB b) := fun M M' h hM => ⟨⟨fun o k j hj => by rw [h]; exact hM.1.1 o k j hj, fun o k j hj => by rw [h]; exact hM.1.2.1 o k j hj, by rw [h]; exact hM.1.2.2.1, fun hb => by rw [h]; exact hM.1.2.2.2 hb⟩, fun o k j hj => hM.2.1 o k j (by rw [← h]; exact hj), ⟨fun o k hk => hM.2.2.1 o k (by rw [← h]; exact hk), fun o k hk => hM.2.2.2 o k (by rw [← h]; exact hk)⟩⟩
def shB (b o : Nat) : Option SE := if o < b then SHF o else none
theorem shB_at {b o : Nat} {e : SE} (h : shB b o = some e) : o < b ∧ SHF o = some e := by
  unfold shB at h
  split at h
  · exact ⟨‹_›, h⟩
  · exact nomatch h
theorem ob {Γ : WC} {K : Mem → Prop} {ad : Nat → Nat} {b o : Nat} {e : SE} (hb : 212 ≤ b) (ho : o < b) (he : SHF o = some e) : On (gc Γ K ad (lB b)) o e := og (lB_nd b) ((lB_iff hb).mpr ho) he
theorem hL4 {Γ : WC} (hT : HT Γ) {b : Nat} (hb : 212 ≤ b) (ad : Nat → Nat) : HLa (gc Γ (KB b) ad (lB b)) (shB b) := ⟨hT.gc (krB b) ad (lB b), fun o e h => ob hb (by have := (shL_at h).1; omega) (shL_at h).2, fun o e h => ob hb (shB_at h).1 (shB_at h).2, fun o k j h M hM => hM.1.2.1 o k j h⟩
theorem srV_lo {o k j : Nat} (h : srV o k = some j) : o = 108 ∨ o = 109 := by
  unfold srV at h
  split at h <;> first | exact Or.inl rfl | exact Or.inr rfl | exact nomatch h
theorem hN4 {Γ : WC} (hT : HT Γ) {b : Nat} (hb : 212 ≤ b) (hb2 : b ≤ 300) (ad : Nat → Nat) : HN (gc Γ (KB b) ad (lB b)) := by
  refine ⟨hT.1.gc (krB b) ad (lB b), fun o e h => ?_, fun o k j h M hM => hM.1.1 o k j h, fun o k v ho hv hs M hM => ?_, hT.2⟩
  · have ho := shlt h
    exact ob hb (by omega) (by unfold SHF; rw [if_pos ho]; exact h)
  · refine ⟨⟨fun a c j hj => ?_, fun a c j hj => ?_, ?_, fun h214 => ?_⟩, fun a c j hj => ?_, ⟨fun a c hj => ?_, fun a c hj => ?_⟩⟩
    · rw [gR_sR]
      split
      · rename_i hac
        rw [hac.1, hac.2, hs] at hj
        exact nomatch hj
      · exact hM.1.1 a c j hj
    · rw [gR_sR, if_neg (by have := srV_lo hj; omega)]
      exact hM.1.2.1 a c j hj
    · rw [gR_sR, if_neg (by omega)]
      exact hM.1.2.2.1
    · rw [gR_sR, if_neg (by omega)]
      exact hM.1.2.2.2 h214
    · rw [gR_sR] at hj
      split at hj
      · have := Option.some.inj hj
        omega
      · exact hM.2.1 a c j hj
    · rw [gR_sR] at hj
      split at hj
      · have := Option.some.inj hj
        omega
      · exact hM.2.2.1 a c hj
    · rw [gR_sR] at hj
      split at hj
      · have := Option.some.inj hj
        omega
      · exact hM.2.2.2 a c hj
theorem hTX4 {Γ : WC} (hT : HT Γ) {b : Nat} (hb : 214 ≤ b) (ad : Nat → Nat) : HTX (gc Γ (KB b) ad (lB b)) := ⟨hT.gc (krB b) ad (lB b), ob (by omega) (by omega) rfl, ob (by omega) (by omega) rfl, fun M hM => hM.1.2.2.2 hb⟩
/-- a context that may be widened by rows that are dropped again -/
def HF (Γ : WC) : Prop := wsh Γ = SHF ∧ (wnl Γ).Nodup ∧ (∀ o, o ∈ wnl Γ → o < 300) ∧ ∀ M, wK Γ M → ∀ o k j, gR M o k = some j → j < 300 ∨ j = 999
theorem hF4 {Γ : WC} {b : Nat} (hb : 212 ≤ b) (hb2 : b ≤ 300) (ad : Nat → Nat) : HF (gc Γ (KB b) ad (lB b)) := ⟨rfl, lB_nd b, fun o ho => by have := (lB_iff hb).mp ho; omega, fun M hM o k j hj => by have := hM.2.1 o k j hj; omega⟩
def zapT (M : Mem) : Mem := (fun o k => if 320 ≤ o ∧ o < 361 then 0 else M.1 o k, fun o k => if 320 ≤ o ∧ o < 361 then 0 else M.2.1 o k, M.2.2)
def ZT (M : Mem) : Prop := ∀ o, 320 ≤ o → o < 361 → zeroM o M
theorem zapT_I {M : Mem} {o k : Nat} (h : o < 320) : gI (zapT M) o k = gI M o k := by
  show (if 320 ≤ o ∧ o < 361 then 0 else M.1 o k) = _
  rw [if_neg (by omega)]
  rfl
theorem zapT_L {M : Mem} {o k : Nat} (h : o < 320) : gL (zapT M) o k = gL M o k := by
  show (if 320 ≤ o ∧ o < 361 then 0 else M.2.1 o k) = _
  rw [if_neg (by omega)]
  rfl
theorem zapT_cE {dA : Nat → ClassId} {ad : Nat → Nat} {M : Mem} {o : Nat} (h : o < 320) (s : SE) : cE dA ad (zapT M) o s = cE dA ad M o s := by
  have h1 : gI (zapT M) o = gI M o := funext fun k => zapT_I h
  have h2 : gL (zapT M) o = gL M o := funext fun k => zapT_L h
  have h3 : gR (zapT M) o = gR M o := rfl
  have h4 : ∀ j q, fVal ad (zapT M) o j q = fVal ad M o j q := fun j q => by simp only [fVal, h1, h2, h3]
  simp only [cE, vlen, fsO, h1, h2, h3, h4]
theorem G.drop {Γ : WC} {K9 : Mem → Prop} {X : MX} {M : Mem} {cs sl : Nat} {L : List (Option Value)} {st : List Value} {pc : Nat} {ad ad1 : Nat → Nat} {l T : List Nat} (hKR : KR K9) (had : ∀ o, o < 320 ∨ o = 999 → ad1 o = ad o) (hl : ∀ o, o ∈ l → o < 300) (hr : K9 M → ∀ o k j, gR M o k = some j → j < 300 ∨ j = 999) (k : G (gc Γ K9 ad l) X (zapT M) cs sl L st pc) : G (gc Γ K9 ad1 (l ++ T)) X M cs sl L st pc := by
  obtain ⟨p, e, R, s, m, args, below, meth, c, Q⟩ := X
  intro H locs ls a1 a2 a3 a4 a5
  have hw : wO (gc Γ K9 ad1 (l ++ T)) M = wO (gc Γ K9 ad l) (zapT M) ++ T.map (wCell (gc Γ K9 ad1 (l ++ T)) M) := by
    show (l ++ T).map _ = l.map _ ++ _
    rw [List.map_append]
    congr 1
    apply List.map_congr_left
    intro o ho
    have h3 := hl o ho
    show (ad1 o, cE (wA Γ) ad1 M o ((SHF o).getD (0, 0))) = (ad o, cE (wA Γ) ad (zapT M) o ((SHF o).getD (0, 0)))
    rw [had o (Or.inl (by omega)), zapT_cE (by omega), cE_ad (ad := ad) (ad1 := ad1) (fun k j hj => had j (by have := hr a1 o k j hj; omega))]
  rw [hw] at a2 a3
  refine k H locs ls (hKR M _ (fun _ _ => rfl) a1) (fun i q hi => a2 i q ?_) ⟨fun i j x y hi hj hxy => a3.1 i j x y ?_ ?_ hxy, fun i x hi => a3.2 i x ?_⟩ a4 a5
  · rw [List.getElem?_append_left (List.getElem?_eq_some_iff.mp hi).1]
    exact hi
  · rw [List.getElem?_append_left (List.getElem?_eq_some_iff.mp hi).1]
    exact hi
  · rw [List.getElem?_append_left (List.getElem?_eq_some_iff.mp hj).1]
    exact hj
  · rw [List.getElem?_append_left (List.getElem?_eq_some_iff.mp hi).1]
    exact hi
/-- a row for a while -/
theorem d_newt {Γ : WC} {K9 : Mem → Prop} {X : MX} {M : Mem} {cs sl : Nat} {pc : Nat} {cc : ByteArray} {nL : Nat} {own : String} {ret : Option FieldType} {R0 : Room} {ad : Nat → Nat} {l : List Nat} {n : Nat} {L1 : List (Option Value)} {st1 : List Value} {atype : ArrayType} {ty : FieldType} {N k cs1 sl1 : Nat} {x : Int32} (C : CX Γ X cc nL own ret R0) (hsh : SHF n = some (k, N)) (hk : k < 4) (htys : (tysA (wA Γ))[k]? = some (wA Γ k, ty)) (harr : Gd (.arrayClass ty)) (hty : newarray.typeOf atype = ty) (hdf : ∀ cA : ClassId, vp_cell cA (zA k N) = arrV cA N (fun _ => defaultValue ty)) (hx : ¬ x < 0 ∧ x.toNatClampNeg = N ∧ N * componentBytes ty ≤ 536870912) (hz : K9 M → NZ n l M) (hR : cs + 1 ≤ R0.cells ∧ sl + N ≤ R0.slots) (d : decode cc pc = .ok (.newarray atype, 2)) (q : Nat) (hq : pc + 2 = q) (ec : cs + 1 = cs1) (es : sl + N = sl1) (K : ∀ p9, G (gc Γ K9 (adu ad n p9) (l ++ [n])) X M cs1 sl1 L1 (.ref p9 :: st1) q) : G (gc Γ K9 ad l) X M cs sl L1 (.int x :: st1) pc := by
  subst hq; subst ec; subst es
  obtain ⟨p, e, R, s, m, args, below, meth, c, Q⟩ := X
  obtain ⟨hx1, hb, hml, hown, hts, hW, hlk, hret, rfl, hK, hSs, hG⟩ := C
  intro H locs ls a1 a2 a3 a4 a5
  have hz := hz a1
  refine va_newa hx1 hb (by rw [hty]; exact hts _ harr) hty hK a2 a3 a4 (fun q h => h) (a0 := zA k N) hdf hx.1 hx.2.1 hx.2.2 hR.1 hR.2 d (fun q cA H1 hK1 hP hD hS => ?_)
  have hcA : cA = wA Γ k := by
    have h1 := (hK1.2 (tysA (wA Γ)).length (cA, ty) (by rw [List.getElem?_append_right (Nat.le_refl _), Nat.sub_self]; rfl)).2
    exact ra_inj h1 (hK.2 k (wA Γ k, ty) htys).2
  subst hcA
  have hw := wO_new (Γ := Γ) (K := K9) (ad := ad) (q := q) hz hsh
  rw [cE_zA hz k hk] at hw
  exact K q H1 locs ls a1 (by rw [hw]; exact hP) (by rw [hw]; exact hD) hS a5
