/-! constructors: the system grows; addresses come one by one -/
def gn (Γ : WC) (ad : Nat → Nat) (n : Nat) : WC := (wU Γ, wD Γ, wA Γ, (fun _ => True), ad, SH.take n, wl Γ, wst Γ, wsv Γ)
def agr (n0 : Nat) (ad0 ad : Nat → Nat) : Prop := ∀ o, o < n0 → ad o = ad0 o
/-- values that name objects by number -/
abbrev SV : Type := Value ⊕ Nat
def ev (ad : Nat → Nat) (v : SV) : Value := match v with
  | .inl v => v
  | .inr o => .ref (ad o)
def evL (ad : Nat → Nat) (L : List (Option SV)) : List (Option Value) := L.map (Option.map (ev ad))
def evS (ad : Nat → Nat) (L : List SV) : List Value := L.map (ev ad)
def svok (n : Nat) (v : SV) : Bool := match v with
  | .inl _ => true
  | .inr o => decide (o < n)
def svL (n : Nat) (L : List (Option SV)) : Bool := L.all (fun o => match o with
  | none => true
  | some v => svok n v)
def GD (Γ : WC) (ad0 : Nat → Nat) (n0 : Nat) (X : MX) (n : Nat) (M : Mem) (cs sl : Nat) (L : List (Option SV)) (st : List SV) (pc : Nat) : Prop := ∀ ad, agr n0 ad0 ad → G (gn Γ ad n) X M cs sl (evL ad L) (evS ad st) pc
theorem ev_agr {n : Nat} {ad ad1 : Nat → Nat} (h : agr n ad ad1) {v : SV} (hv : svok n v = true) : ev ad1 v = ev ad v := by
  cases v with
  | inl v => rfl
  | inr o =>
    have ho : o < n := of_decide_eq_true hv
    show Value.ref (ad1 o) = Value.ref (ad o)
    rw [h o ho]
theorem evL_agr {n : Nat} {ad ad1 : Nat → Nat} (h : agr n ad ad1) {L : List (Option SV)} (hv : svL n L = true) : evL ad1 L = evL ad L := by
  apply List.map_congr_left
  intro o ho
  have h1 := List.all_eq_true.mp hv o ho
  cases o with
  | none => rfl
  | some v =>
    show some (ev ad1 v) = some (ev ad v)
    rw [ev_agr h h1]
theorem evS_agr {n : Nat} {ad ad1 : Nat → Nat} (h : agr n ad ad1) {L : List SV} (hv : L.all (svok n) = true) : evS ad1 L = evS ad L := by
  apply List.map_congr_left
  intro v hm
  exact ev_agr h (List.all_eq_true.mp hv v hm)
/-- objects that are not made yet are zero; no reference names them -/
def Zr (n : Nat) (M : Mem) : Prop := (∀ o, n ≤ o → (∀ k, gI M o k = 0) ∧ (∀ k, gL M o k = 0) ∧ ∀ k, gR M o k = none) ∧ ∀ o k j, gR M o k = some j → j < n
def M00 : Mem := (fun _ _ => 0, fun _ _ => 0, fun _ _ => none)
theorem Zr_00 : Zr 0 M00 := ⟨fun _ _ => ⟨fun _ => rfl, fun _ => rfl, fun _ => rfl⟩, fun _ _ _ h => nomatch h⟩
theorem Zr.mono {n m : Nat} {M : Mem} (h : Zr n M) (hn : n ≤ m) : Zr m M := ⟨fun o ho => h.1 o (Nat.le_trans hn ho), fun o k j hj => Nat.lt_of_lt_of_le (h.2 o k j hj) hn⟩
theorem Zr.sI {n o k : Nat} {v : Int32} {M : Mem} (h : Zr n M) (ho : o < n) : Zr n (sI M o k v) := by
  refine ⟨fun a ha => ⟨fun b => ?_, fun b => (h.1 a ha).2.1 b, fun b => (h.1 a ha).2.2 b⟩, fun a b j hj => h.2 a b j hj⟩
  rw [gI_sI, if_neg (fun z => by omega)]
  exact (h.1 a ha).1 b
theorem Zr.sR {n o k j : Nat} {M : Mem} (h : Zr n M) (ho : o < n) (hj : j < n) : Zr n (sR M o k (some j)) := by
  refine ⟨fun a ha => ⟨fun b => (h.1 a ha).1 b, fun b => (h.1 a ha).2.1 b, fun b => ?_⟩, fun a b i hi => ?_⟩
  · rw [gR_sR, if_neg (fun z => by omega)]
    exact (h.1 a ha).2.2 b
  · rw [gR_sR] at hi
    split at hi
    · cases hi
      exact hj
    · exact h.2 a b i hi
theorem cE_ad {dA : Nat → ClassId} {ad ad1 : Nat → Nat} {M : Mem} {o : Nat} (h : ∀ k j, gR M o k = some j → ad1 j = ad j) (s : SE) : cE dA ad1 M o s = cE dA ad M o s := by
  have h1 : ∀ k, (gR M o k).map ad1 = (gR M o k).map ad := fun k => by
    cases hk : gR M o k with
    | none => rfl
    | some j =>
      show some (ad1 j) = some (ad j)
      rw [h k j hk]
  have h2 : ∀ j q, fVal ad1 M o j q = fVal ad M o j q := fun j q => by simp only [fVal, h1]
  simp only [cE, fsO, h1, h2]
def adu (ad : Nat → Nat) (n q : Nat) : Nat → Nat := fun o => if o = n then q else ad o
theorem adu_agr {ad : Nat → Nat} {n q : Nat} : agr n ad (adu ad n q) := fun o ho => if_neg (by omega)
theorem adu_n {ad : Nat → Nat} {n q : Nat} : adu ad n q n = q := if_pos rfl
theorem wO_new {Γ : WC} {ad : Nat → Nat} {n q : Nat} {M : Mem} {e : SE} (hz : Zr n M) (he : SH[n]? = some e) : wO (gn Γ (adu ad n q) (n + 1)) M = wO (gn Γ ad n) M ++ [(q, cE (wA Γ) (adu ad n q) M n e)] := by
  have hl : n < SH.length := (List.getElem?_eq_some_iff.mp he).1
  have l1 : (wsh (gn Γ (adu ad n q) (n + 1))).length = n + 1 := by
    show (SH.take (n + 1)).length = n + 1
    rw [List.length_take]; omega
  have l2 : (wsh (gn Γ ad n)).length = n := by
    show (SH.take n).length = n
    rw [List.length_take]; omega
  simp only [wO, l1, l2, List.range_succ, List.map_append, List.map_cons, List.map_nil]
  congr 1
  · apply List.map_congr_left
    intro o ho
    have ho := List.mem_range.mp ho
    have g1 : (wsh (gn Γ (adu ad n q) (n + 1))).getD o (0, 0) = (wsh (gn Γ ad n)).getD o (0, 0) := by
      show (SH.take (n + 1)).getD o (0, 0) = (SH.take n).getD o (0, 0)
      rw [List.getD_eq_getElem?_getD, List.getD_eq_getElem?_getD, List.getElem?_take_of_lt (by omega), List.getElem?_take_of_lt ho]
    have g2 : wad (gn Γ (adu ad n q) (n + 1)) o = wad (gn Γ ad n) o := adu_agr o ho
    have g3 := cE_ad (dA := wA Γ) (ad := ad) (ad1 := adu ad n q) (M := M) (o := o) (fun k j hj => adu_agr j (hz.2 o k j hj)) ((wsh (gn Γ ad n)).getD o (0, 0))
    simp only [wCell, g1, g2]
    exact congrArg (fun z => (wad (gn Γ ad n) o, z)) g3
  · have g1 : (wsh (gn Γ (adu ad n q) (n + 1))).getD n (0, 0) = e := by
      show (SH.take (n + 1)).getD n (0, 0) = e
      rw [List.getD_eq_getElem?_getD, List.getElem?_take_of_lt (by omega), he]
      rfl
    have g2 : wad (gn Γ (adu ad n q) (n + 1)) n = q := adu_n
    simp only [wCell, g1, g2]
    rfl
theorem HG.gn {Γ : WC} (h : HG Γ) (ad : Nat → Nat) (n : Nat) : HG (gn Γ ad n) := ⟨h.1, h.2.1, h.2.2.1, h.2.2.2.1, h.2.2.2.2.1, fun _ _ _ _ => trivial⟩
theorem CX.gn {Γ : WC} {X : MX} {cc : ByteArray} {nL : Nat} {own : String} {ret : Option FieldType} {R0 : Room} (C : CX Γ X cc nL own ret R0) (ad : Nat → Nat) (n : Nat) : CX (gn Γ ad n) X cc nL own ret R0 := by
  obtain ⟨p, e, R, s, m, args, below, meth, c, Q⟩ := X
  obtain ⟨hx, hb, hml, hown, hts, hW, hlk, hret, hR, hK, hSs, hG⟩ := C
  exact ⟨hx, hb, hml, hown, hts, hW, hlk, hret, hR, hK, hSs, hG.gn ad n⟩
def XI (X : MX) : Prop := match X with
  | (_, _, _, _, _, _, _, meth, _, _) => meth.name = "<init>"
def rAs (ad : Nat → Nat) (As : List Nat) : List Value := As.map (fun o => .ref (ad o))
/-- contract of a constructor: n0 objects before, n1 after -/
def QcD (Γ : WC) (ad : Nat → Nat) (n0 n1 : Nat) (M1 : Mem) : Array Value → State → Outcome → State → Prop := fun _ _ o t => o = .returned none ∧ ∃ ad1, agr n0 ad ad1 ∧ WP (gn Γ ad1 n1) M1 t
def CtD (Γ : WC) (y : MethodName) (cc : ByteArray) (nL : Nat) (rm : Room) (n0 n1 : Nat) (As : List Nat) (M M1 : Mem) : Prop := ∀ ad, Met (wl Γ) y [Cond.code y cc nL none] rm (va_Pc (rAs ad As) (WP (gn Γ ad n0) M)) (QcD Γ ad n0 n1 M1) rm.cells rm.slots (fAg Γ)
def EndD (Γ : WC) (X : MX) (ad : Nat → Nat) (n0 n1 : Nat) (M1 : Mem) (mc ms : Nat) : Prop := match X with
  | (_, _, _, s, _, args, below, _, _, Q) => Q = MQ below (QcD Γ ad n0 n1 M1) args s mc ms (fAg Γ)
theorem mkD {Γ : WC} {y : MethodName} {own : String} {cc : ByteArray} {nL : Nat} {rm : Room} {n0 n1 : Nat} {As : List Nat} {M M1 : Mem} (hG : HG Γ) (ho : y.cls = own) (hn : plainName y.cls = true) (hi : y.name = "<init>") (hl : ∀ ad, (lg_sl (rAs ad As)).length ≤ nL)
    (body : ∀ ad X, CX Γ X cc nL own none rm → XI X → EndD Γ X ad n0 n1 M1 rm.cells rm.slots → G (gn Γ ad n0) X M 0 0 (lE (rAs ad As)) [] 0) : CtD Γ y cc nL rm n0 n1 As M M1 := by
  intro ad
  refine Met.ofW (cc := cc) (maxL := nL) (ret := none) hn rfl ?_
  intro p e s m args below meth c s₁ B hml hv
  obtain ⟨rfl, hK, hW, hS, hP, hD⟩ := hv
  subst ho
  have hown : s.vm.findClass y.cls = some m.cls := findClass_of_methodNamed B.named
  have hb := body ad (p, e, rm, s, m, (rAs ad As).toArray, below, meth, c, MQ below (QcD Γ ad n0 n1 M1) (rAs ad As).toArray s rm.cells rm.slots (fAg Γ))
    ⟨B.exec, B.bytes, hml, hown, fun w hw => hG.1 w hw _ _ hW, hW, B.notSynchronized, B.returns, rfl, mkCX hG hW, hS, hG⟩ ((name_of_methodNamed B.named B.method).1.trans hi) rfl
  have hle := lv_entry (rAs ad As) (hl ad)
  rw [lg_entry_eq]
  have h2 := hb s.heap [] _ hK hP hD hS (by rw [hml, lE_args]; exact hle)
  exact h2
theorem ra_inj {U : State} {ty : FieldType} {a b : ClassId} (h1 : va_RA U a ty) (h2 : va_RA U b ty) : a = b := by
  cases ty <;> first | (obtain ⟨_, _, _, _, _, h4⟩ := h1; obtain ⟨_, _, _, _, _, h5⟩ := h2; exact Option.some.inj (h4.symm.trans h5)) | exact Option.some.inj (Eq.trans (Eq.symm h1) h2)
/-- an array of zeros -/
def zA (k N : Nat) : vp_A := match k with
  | 1 => (N, .inr (.inl (fun _ => 0)))
  | 4 => (N, .inr (.inr (.inr (.inl (fun _ => 0)))))
  | 5 => (N, .inr (.inr (.inr (.inr (fun _ => none)))))
  | _ => (N, .inl (fun _ => 0))
theorem cE_zA {dA : Nat → ClassId} {ad : Nat → Nat} {M : Mem} {n N : Nat} (hz : Zr n M) : ∀ k, k < 6 → cE dA ad M n (k, N) = .inl (dA k, zA k N) := by
  have hI : gI M n = fun _ => 0 := funext (hz.1 n (Nat.le_refl _)).1
  have hL : gL M n = fun _ => 0 := funext (hz.1 n (Nat.le_refl _)).2.1
  have hR : gR M n = fun _ => none := funext (hz.1 n (Nat.le_refl _)).2.2
  intro k hk
  match k, hk with
  | 0, _ => show (Sum.inl (dA 0, N, Sum.inl (gI M n)) : va_E) = _; rw [hI]; rfl
  | 1, _ => show (Sum.inl (dA 1, N, Sum.inr (Sum.inl (gL M n))) : va_E) = _; rw [hL]; rfl
  | 2, _ => show (Sum.inl (dA 2, N, Sum.inl (gI M n)) : va_E) = _; rw [hI]; rfl
  | 3, _ => show (Sum.inl (dA 3, N, Sum.inl (gI M n)) : va_E) = _; rw [hI]; rfl
  | 4, _ => show (Sum.inl (dA 4, N, Sum.inr (Sum.inr (Sum.inr (Sum.inl (fun j => (gL M n j).toUInt64))))) : va_E) = _; rw [hL]; rfl
  | 5, _ => show (Sum.inl (dA 5, N, Sum.inr (Sum.inr (Sum.inr (Sum.inr (fun j => (gR M n j).map ad))))) : va_E) = _; rw [hR]; rfl
def zV (k : Nat) : Value := match k with
  | 0 => .int 0
  | 1 => .long 0
  | _ => .null
theorem fsO_z {ad : Nat → Nat} {M : Mem} {n c : Nat} (hz : Zr n M) : fsO ad M n c = (List.range (nFd c)).map (fun j => zV (kFd c j)) := by
  have h : ∀ j k, fVal ad M n j k = zV k := fun j k => by
    match k with
    | 0 => show Value.int (gI M n j) = _; rw [(hz.1 n (Nat.le_refl _)).1 j]; rfl
    | 1 => show Value.long (gL M n j) = _; rw [(hz.1 n (Nat.le_refl _)).2.1 j]; rfl
    | k + 2 => show va_rf ((gR M n j).map ad) = _; rw [(hz.1 n (Nat.le_refl _)).2.2 j]; rfl
  simp only [fsO, h]
section Con
variable {Γ : WC} {X : MX} {M M1 : Mem} {cs sl : Nat} {pc : Nat} {cc : ByteArray} {nL : Nat} {own : String} {ret : Option FieldType} {R0 : Room} {ad0 ad : Nat → Nat} {n0 n : Nat} {L : List (Option SV)} {st : List SV}
theorem GD.to (K : GD Γ ad0 n0 X n M cs sl L st pc) (hag : agr n0 ad0 ad) {n1 : Nat} {ad1 : Nat → Nat} (h0 : n0 ≤ n1) (h1 : agr n1 ad ad1) (hL : svL n1 L = true) (hs : st.all (svok n1) = true) : G (gn Γ ad1 n) X M cs sl (evL ad L) (evS ad st) pc := by
  rw [← evL_agr h1 hL, ← evS_agr h1 hs]
  exact K ad1 (fun o ho => (h1 o (Nat.lt_of_lt_of_le ho h0)).trans (hag o ho))
theorem d_new {idx ci N cs1 sl1 : Nat} {Cn : String} {T : u_T} (C : CX Γ X cc nL own ret R0) (hsh : SH[n]? = some (ci + 6, N)) (hc : vwCl[ci]? = some (Cn, T, N)) (hu : ∀ w ∈ u_ws Cn T N, Gd w) {ty : Nat → FieldType} (hty : ∀ k, k < N → parseFieldDescriptor (T k).2.2.1 = some (ty k)) (hdf : ∀ k, k < N → defaultValue (ty k) = zV (kFd ci k)) (hcl : Gd (.classLink own idx Cn)) (hin : Gd (.instantiable Cn N)) (hini : Gd (.initialized Cn)) (hz : Zr n M) (hR : cs + 1 ≤ R0.cells ∧ sl + N ≤ R0.slots) (hag : agr n0 ad0 ad) (hn0 : n0 ≤ n) {L1 : List (Option Value)} {st1 : List Value} (hL1 : L1 = evL ad L) (hs1 : st1 = evS ad st) (hL : svL n L = true) (hs : st.all (svok n) = true) (d : decode cc pc = .ok (.new idx, 3)) (q : Nat) (hq : pc + 3 = q) (ec : cs + 1 = cs1) (es : sl + N = sl1) (K : GD Γ ad0 n0 X (n + 1) M cs1 sl1 L (.inr n :: st) q) : G (gn Γ ad n) X M cs sl L1 st1 pc := by
  subst hq; subst ec; subst es; subst hL1; subst hs1
  obtain ⟨p, e, R, s, m, args, below, meth, c, Q⟩ := X
  obtain ⟨hx, hb, hml, hown, hts, hW, hlk, hret, rfl, hK, hSs, hG⟩ := C
  intro H locs ls a1 a2 a3 a4 a5
  refine va_new hx hb (Ts := u_ws Cn T N) (fun w hw => hts w (hu w hw)) (fun w h => h) ty hty hown (hts _ hcl) (hts _ hin) (hts _ hini) hK a2 a3 a4 (fun q h => h) hc (fs := fsO ad M n ci) (fun j hj => ?_) hR.1 hR.2 d (fun q H1 hP hD hS => ?_)
  · rw [fsO_z hz, hdf j hj]
    have hl : j < nFd ci := by rw [nFd_of hc]; exact hj
    simp only [vp_V, List.getD_eq_getElem?_getD, List.getElem?_map, List.getElem?_range hl, Option.map_some, Option.getD_some]
  · have hw := wO_new (Γ := Γ) (ad := ad) (q := q) hz hsh
    have he : cE (wA Γ) (adu ad n q) M n (ci + 6, N) = (.inr (ci, fsO ad M n ci) : va_E) := by
      rw [cE_ad (ad := ad) (fun k j hj => by rw [(hz.1 n (Nat.le_refl _)).2.2 k] at hj; exact nomatch hj)]
      rfl
    rw [he] at hw
    have kk := K (adu ad n q) (fun o ho => (adu_agr o (Nat.lt_of_lt_of_le ho hn0)).trans (hag o ho))
    rw [evL_agr adu_agr hL] at kk
    have e2 : evS (adu ad n q) (.inr n :: st) = .ref q :: evS ad st := by
      show Value.ref (adu ad n q n) :: evS (adu ad n q) st = _
      rw [adu_n, evS_agr adu_agr hs]
    rw [e2] at kk
    exact kk H1 locs ls trivial (by rw [hw]; exact hP) (by rw [hw]; exact hD) hS a5
theorem d_newa {atype : ArrayType} {ty : FieldType} {N k cs1 sl1 : Nat} {x : Int32} (C : CX Γ X cc nL own ret R0) (hsh : SH[n]? = some (k, N)) (hk : k < 6) (htys : (tysA (wA Γ))[k]? = some (wA Γ k, ty)) (harr : Gd (.arrayClass ty)) (hty : newarray.typeOf atype = ty) (hdf : ∀ cA : ClassId, vp_cell cA (zA k N) = arrV cA N (fun _ => defaultValue ty)) (hx : ¬ x < 0 ∧ x.toNatClampNeg = N ∧ N * componentBytes ty ≤ 536870912) (hz : Zr n M) (hR : cs + 1 ≤ R0.cells ∧ sl + N ≤ R0.slots) (hag : agr n0 ad0 ad) (hn0 : n0 ≤ n) {L1 : List (Option Value)} {st1 : List Value} (hL1 : L1 = evL ad L) (hs1 : st1 = .int x :: evS ad st) (hL : svL n L = true) (hs : st.all (svok n) = true) (d : decode cc pc = .ok (.newarray atype, 2)) (q : Nat) (hq : pc + 2 = q) (ec : cs + 1 = cs1) (es : sl + N = sl1) (K : GD Γ ad0 n0 X (n + 1) M cs1 sl1 L (.inr n :: st) q) : G (gn Γ ad n) X M cs sl L1 st1 pc := by
  subst hq; subst ec; subst es; subst hL1; subst hs1
  obtain ⟨p, e, R, s, m, args, below, meth, c, Q⟩ := X
  obtain ⟨hx1, hb, hml, hown, hts, hW, hlk, hret, rfl, hK, hSs, hG⟩ := C
  intro H locs ls a1 a2 a3 a4 a5
  refine va_newa hx1 hb (by rw [hty]; exact hts _ harr) hty hK a2 a3 a4 (fun q h => h) (a0 := zA k N) hdf hx.1 hx.2.1 hx.2.2 hR.1 hR.2 d (fun q cA H1 hK1 hP hD hS => ?_)
  have hcA : cA = wA Γ k := by
    have h1 := (hK1.2 (tysA (wA Γ)).length (cA, ty) (by rw [List.getElem?_append_right (Nat.le_refl _), Nat.sub_self]; rfl)).2
    exact ra_inj h1 (hK.2 k _ htys).2
  subst hcA
  have hw := wO_new (Γ := Γ) (ad := ad) (q := q) hz hsh
  rw [cE_zA hz k hk] at hw
  have kk := K (adu ad n q) (fun o ho => (adu_agr o (Nat.lt_of_lt_of_le ho hn0)).trans (hag o ho))
  rw [evL_agr adu_agr hL] at kk
  have e2 : evS (adu ad n q) (.inr n :: st) = .ref q :: evS ad st := by
    show Value.ref (adu ad n q n) :: evS (adu ad n q) st = _
    rw [adu_n, evS_agr adu_agr hs]
  rw [e2] at kk
  exact kk H1 locs ls trivial (by rw [hw]; exact hP) (by rw [hw]; exact hD) hS a5
theorem d_newq {idx N cs1 sl1 : Nat} {x : Int32} (C : CX Γ X cc nL own ret R0) (hsh : SH[n]? = some (5, N)) (hcl : Gd (.classLink own idx "DecisionChain$Settings")) (hov : va_AO "DecisionChain$Settings" (wU Γ)) (hx : ¬ x < 0 ∧ x.toNatClampNeg = N ∧ N * 4 ≤ 536870912) (hz : Zr n M) (hR : cs + 1 ≤ R0.cells ∧ sl + N ≤ R0.slots) (hag : agr n0 ad0 ad) (hn0 : n0 ≤ n) {L1 : List (Option Value)} {st1 : List Value} (hL1 : L1 = evL ad L) (hs1 : st1 = .int x :: evS ad st) (hL : svL n L = true) (hs : st.all (svok n) = true) (d : decode cc pc = .ok (.anewarray idx, 3)) (q : Nat) (hq : pc + 3 = q) (ec : cs + 1 = cs1) (es : sl + N = sl1) (K : GD Γ ad0 n0 X (n + 1) M cs1 sl1 L (.inr n :: st) q) : G (gn Γ ad n) X M cs sl L1 st1 pc := by
  subst hq; subst ec; subst es; subst hL1; subst hs1
  obtain ⟨p, e, R, s, m, args, below, meth, c, Q⟩ := X
  obtain ⟨hx1, hb, hml, hown, hts, hW, hlk, hret, rfl, hK, hSs, hG⟩ := C
  intro H locs ls a1 a2 a3 a4 a5
  refine va_newq hx1 hb hown (hts _ hcl) (va_AO.moved hW.alike hov) hK a2 a3 a4 (fun q h => h) hx.1 hx.2.1 hx.2.2 hR.1 hR.2 d (fun q cA H1 hK1 hP hD hS => ?_)
  have hcA : cA = wA Γ 5 := by
    have h1 := (hK1.2 (tysA (wA Γ)).length (cA, .object "DecisionChain$Settings") (by rw [List.getElem?_append_right (Nat.le_refl _), Nat.sub_self]; rfl)).2
    exact ra_inj h1 (hK.2 5 (wA Γ 5, .object "DecisionChain$Settings") rfl).2
  subst hcA
  have hw := wO_new (Γ := Γ) (ad := ad) (q := q) hz hsh
  rw [cE_zA hz 5 (by decide)] at hw
  have kk := K (adu ad n q) (fun o ho => (adu_agr o (Nat.lt_of_lt_of_le ho hn0)).trans (hag o ho))
  rw [evL_agr adu_agr hL] at kk
  have e2 : evS (adu ad n q) (.inr n :: st) = .ref q :: evS ad st := by
    show Value.ref (adu ad n q n) :: evS (adu ad n q) st = _
    rw [adu_n, evS_agr adu_agr hs]
  rw [e2] at kk
  exact kk H1 locs ls trivial (by rw [hw]; exact hP) (by rw [hw]; exact hD) hS a5
theorem d_getS {o N idx ci k j : Nat} {L1 : List (Option Value)} {st1 : List Value} (C : CX Γ X cc nL own ret R0) (lk : FLk own idx ci k 2) (hs : (SH.take n)[o]? = some (ci + 6, N)) (hr : gR M o k = some j) (d : decode cc pc = .ok (.getfield idx, 3)) (q : Nat) (hq : pc + 3 = q) (K : G (gn Γ ad n) X M cs sl L1 (.ref (ad j) :: st1) q) : G (gn Γ ad n) X M cs sl L1 (.ref (ad o) :: st1) pc := by
  subst hq
  obtain ⟨p, e, R, s, m, args, below, meth, c, Q⟩ := X
  obtain ⟨hx, hb, hml, hown, hts, hW, hlk, hret, hR, hK, hSs, hG⟩ := C
  intro H locs ls a1 a2 a3 a4 a5
  obtain ⟨C, T, N, h1, h2, h3, h4, h5⟩ := lk
  have hv : (fsO ad M o ci)[k]? = some (.ref (ad j)) := by
    rw [fsO_at (by rw [nFd_of h1]; exact h2), h3]
    simp only [fVal, hr, Option.map_some, va_rf]
  exact va_get hx hb (Ts := u_ws C T N) (fun w hw => hts w (h4 w hw)) (fun w h => h) hown hK a2 o (wO_at (Γ := gn Γ ad n) hs) h1 k h2 (hts _ h5) (fun _ h => h) hv d (K H locs ls a1 a2 a3 a4 a5)
theorem d_obj {idx a : Nat} {L1 : List (Option Value)} {st1 : List Value} (C : CX Γ X cc nL own ret R0) (ln : Gd (.methodLink own idx objectInit)) (mi : Gd (.instanceMethod objectInit)) (cw : Gd (.code objectInit ⟨#[0xb1]⟩ 1 none)) (hf : 1 ≤ R0.frames ∧ 20 ≤ R0.locals) (hw : (st1.map fun v => v.category).sum ≤ 8) (d : decode cc pc = .ok (.invokespecial idx, 3)) (q : Nat) (hq : pc + 3 = q) (K : G (gn Γ ad n) X M cs sl L1 st1 q) : G (gn Γ ad n) X M cs sl L1 (.ref a :: st1) pc := by
  subst hq
  obtain ⟨p, e, R, s, m, args, below, meth, c, Q⟩ := X
  obtain ⟨hx, hb, hml, hown, hts, hW, hlk, hret, rfl, hK, hSs, hG⟩ := C
  intro H locs ls a1 a2 a3 a4 a5
  refine W.objInit hx hb hown (hts _ ln) (hts _ mi) (hts _ cw) rfl a5.1 rfl d hf.1 (by show 0 + _ + 12 ≤ _; omega) ?_
  exact K H locs ls a1 a2 a3 a4 a5
theorem d_vret {n1 mc ms : Nat} {L1 : List (Option Value)} (C : CX Γ X cc nL own none R0) (E : EndD Γ X ad0 n0 n1 M mc ms) (hag : agr n0 ad0 ad) (hc : cs ≤ mc) (hs : sl ≤ ms) (d : decode cc pc = .ok (.return_, 1)) : G (gn Γ ad n1) X M cs sl L1 [] pc := by
  obtain ⟨p, e, R, s, m, args, below, meth, c, Q⟩ := X
  obtain ⟨hx, hb, hml, hown, hts, hW, hlk, hret, hR, hK, hSs, hG⟩ := C
  intro H locs ls a1 a2 a3 a4 a5
  refine W.widen hc hs ?_
  rw [show Q = _ from E]
  exact W.vret hx hb hret (fun t ht hW1 => ⟨rfl, ad, hag, trivial, State.WarmedH.trans hW hW1, by rw [ht]; exact S_nil a4, by rw [ht]; exact a2, a3⟩) a4.2.2 d hlk
/-- behind a constructor that returned -/
theorem callD {p : Program} {l : Launch} {e : Env} {R : Room} {s : State} {m : MethodId} {args : Array Value} {below : List Frame} {meth : Method} {c : Code} {H : Heap} {locs : List Loc} {mc ms n1 : Nat} {Q : State → Prop} {ls : Array Slot} {st0 rest : List Value} {a0 : Array Value}
    (hr : va_Run p l e R s m args below meth c H locs cs sl mc ms (F0 m pc ls st0) rest (QcD Γ ad n n1 M1 a0) (fAg Γ)) (hS : va_S (fAg Γ) (wU Γ).heap H locs)
    (kk : ∀ (H1 : Heap) (locs1 : List Loc) (ad1 : Nat → Nat), agr n ad ad1 → va_P (wD Γ) vwCl (wO (gn Γ ad1 n1) M1) H1 → va_D (fAg Γ) (wO (gn Γ ad1 n1) M1) → va_S (fAg Γ) (wU Γ).heap H1 locs1 → W p l e R s m args below meth c H1 locs1 (cs + mc) (sl + ms) Q (F0 m (pc + 3) ls rest)) : W p l e R s m args below meth c H locs cs sl Q (F0 m pc ls st0) := by
  intro T hT X
  obtain ⟨v', st₀, t, T', L, h0, X', hL, e1, e2, ⟨hv, ad1, hg, hK, hW, hS1, hP1, hD1⟩, st⟩ := hr T hT X
  cases hv
  obtain ⟨t2, a1, b1⟩ := kk T'.heap (locs ++ L) ad1 hg (by rw [e1]; exact hP1) hD1 ⟨by rw [e1]; exact hS1.1, fun q h1 h2 => by rw [e1]; exact hS1.2.1 q h1 h2, fun q hq => (List.mem_append.mp hq).elim (hS.2.2 q) (hL q)⟩ T' rfl X'
  exact ⟨t2, st t2 a1, b1⟩
theorem d_cI {y : MethodName} {bytes : ByteArray} {maxL idx n1 o k cs1 sl1 : Nat} {rm : Room} {As : List Nat} (C : CX Γ X cc nL own ret R0) (hM : CtD Γ y bytes maxL rm n n1 (o :: As) M M1) (mw : MW y bytes maxL none k) (ln : Gd (.methodLink own idx y)) (mi : Gd (.instanceMethod y) ∧ y.name = "<init>") (hr : RO rm R0 maxL cs sl) (hn : As.length = k) (hag : agr n0 ad0 ad) (hn0 : n0 ≤ n) {L1 : List (Option Value)} {st1 : List Value} (hL1 : L1 = evL ad L) (hs1 : st1 = (rAs ad As).reverse ++ .ref (ad o) :: evS ad st) (hL : svL n L = true) (hs : st.all (svok n) = true) (hw : ((evS ad st).map fun v => v.category).sum ≤ 8) (d : decode cc pc = .ok (.invokespecial idx, 3)) (q : Nat) (hq : pc + 3 = q) (ec : cs + rm.cells = cs1) (es : sl + rm.slots = sl1) (K : GD Γ ad0 n0 X n1 M1 cs1 sl1 L st q) : G (gn Γ ad n) X M cs sl L1 st1 pc := by
  obtain ⟨p, e, R, s, m, args, below, meth, c, Q⟩ := X
  obtain ⟨hx, hb, hml, hown, hts, hW, hlk, hret, rfl, hK, hSs, hG⟩ := C
  subst hL1; subst hs1; subst hml; subst hq; subst ec; subst es
  intro H locs ls a1 a2 a3 a4 a5
  have hlen : (rAs ad As).length = k := by rw [← hn]; simp [rAs]
  exact callD (va_runI (Ts := []) (own := own) ⟨hx, hb, rfl, hown, fun _ h => nomatch h⟩ (hM ad) ⟨cw_B hW hts hG mw hr ln, mi.2, hts _ mi.1⟩ ⟨WP.blind (Γ := gn Γ ad n), fun U hU hU2 => ⟨rfl, a1, State.WarmedH.trans hW hU2, by rw [hU]; exact S_nil a4, by rw [hU]; exact a2, a3⟩⟩ rfl hlen a5.1 rfl (lv_room hw) d ⟨hr.2.2.1, hr.2.2.2⟩) a4 (fun H1 locs1 ad1 hg b1 b2 b3 => GD.to K hag hn0 hg hL hs H1 locs1 ls trivial b1 b2 b3 a5)
theorem d_cJ {y : MethodName} {bytes : ByteArray} {maxL idx n1 o k cs1 sl1 : Nat} {host : String} {rm : Room} {As : List Nat} (C : CX Γ X cc nL own ret R0) (hM : CtD Γ y bytes maxL rm n n1 (o :: As) M M1) (mw : MW y bytes maxL none k) (ln : Gd (.methodLinkNest own idx y host)) (mi : Gd (.instanceMethod y) ∧ y.name = "<init>") (hr : RO rm R0 maxL cs sl) (hn : As.length = k) (hag : agr n0 ad0 ad) (hn0 : n0 ≤ n) {L1 : List (Option Value)} {st1 : List Value} (hL1 : L1 = evL ad L) (hs1 : st1 = (rAs ad As).reverse ++ .ref (ad o) :: evS ad st) (hL : svL n L = true) (hs : st.all (svok n) = true) (hw : ((evS ad st).map fun v => v.category).sum ≤ 8) (d : decode cc pc = .ok (.invokespecial idx, 3)) (q : Nat) (hq : pc + 3 = q) (ec : cs + rm.cells = cs1) (es : sl + rm.slots = sl1) (K : GD Γ ad0 n0 X n1 M1 cs1 sl1 L st q) : G (gn Γ ad n) X M cs sl L1 st1 pc := by
  obtain ⟨p, e, R, s, m, args, below, meth, c, Q⟩ := X
  obtain ⟨hx, hb, hml, hown, hts, hW, hlk, hret, rfl, hK, hSs, hG⟩ := C
  subst hL1; subst hs1; subst hml; subst hq; subst ec; subst es
  intro H locs ls a1 a2 a3 a4 a5
  have hlen : (rAs ad As).length = k := by rw [← hn]; simp [rAs]
  exact callD (va_runIN (Ts := []) (own := own) ⟨hx, hb, rfl, hown, fun _ h => nomatch h⟩ (hM ad) ⟨cw_N hW hts hG mw hr ln, mi.2, hts _ mi.1⟩ ⟨WP.blind (Γ := gn Γ ad n), fun U hU hU2 => ⟨rfl, a1, State.WarmedH.trans hW hU2, by rw [hU]; exact S_nil a4, by rw [hU]; exact a2, a3⟩⟩ rfl hlen a5.1 rfl (lv_room hw) d ⟨hr.2.2.1, hr.2.2.2⟩) a4 (fun H1 locs1 ad1 hg b1 b2 b3 => GD.to K hag hn0 hg hL hs H1 locs1 ls trivial b1 b2 b3 a5)
end Con
