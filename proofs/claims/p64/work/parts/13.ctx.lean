/-! the law's own objects: their numbers and shapes; contexts that grow, and whose text builder's row moves -/
def SHQ : List SE := [(19, 2), (18, 17), (0, 3), (0, 6), (5, 1006), (0, 3), (0, 3), (0, 3), (0, 3), (0, 3), (0, 3), (5, 1006), (0, 3), (0, 3), (0, 3), (0, 3), (0, 3), (0, 3)] ++
  ((5, 2006) :: (List.range 6).flatMap (fun _ => [(5, 1003), (0, 3), (0, 3), (0, 3)])) ++ ((5, 2006) :: (List.range 6).flatMap (fun _ => [(5, 1003), (0, 6), (0, 6), (0, 6)])) ++ ((5, 2006) :: (List.range 6).flatMap (fun _ => [(5, 1003), (0, 7), (0, 7), (0, 7)])) ++
  [(5, 3006), (3, 3), (3, 3), (3, 3), (3, 3), (3, 3), (3, 3), (0, 6), (0, 5), (21, 4), (4, 0), (20, 4), (4, 0)]
/-- shapes by number: the class's objects, the law's, its new rows -/
def SHF (o : Nat) : Option SE := if o < 108 then SH[o]? else if o < 214 then SHQ[o - 108]? else if o = 300 then some (4, 0) else if 320 ≤ o ∧ o < 360 then some (1, (o - 320) / 8) else if o = 360 then some (0, 5) else some (0, 3)
def gc (Γ : WC) (K : Mem → Prop) (ad : Nat → Nat) (l : List Nat) : WC := (wU Γ, wD Γ, wA Γ, K, ad, (l, SHF), wl Γ, wst Γ, wsv Γ)
def agr (l : List Nat) (ad0 ad : Nat → Nat) : Prop := ∀ o, (o ∈ l ∨ o = 999) → o ≠ 211 → ad o = ad0 o
theorem agr.rfl {l : List Nat} {ad : Nat → Nat} : agr l ad ad := fun _ _ _ => Eq.refl _
theorem agr.trans {l l1 : List Nat} {ad ad1 ad2 : Nat → Nat} (h : agr l ad ad1) (h1 : agr l1 ad1 ad2) (hs : ∀ o, o ∈ l → o ∈ l1) : agr l ad ad2 := fun o ho hn => (h1 o (ho.elim (fun z => Or.inl (hs o z)) Or.inr) hn).trans (h o ho hn)
/-- values that name objects by number -/
abbrev SV : Type := Value ⊕ Nat
def ev (ad : Nat → Nat) (v : SV) : Value := match v with
  | .inl v => v
  | .inr o => .ref (ad o)
def evL (ad : Nat → Nat) (L : List (Option SV)) : List (Option Value) := L.map (Option.map (ev ad))
def evS (ad : Nat → Nat) (L : List SV) : List Value := L.map (ev ad)
def svok (l : List Nat) (v : SV) : Prop := match v with
  | .inl _ => True
  | .inr o => (o ∈ l ∨ o = 999) ∧ o ≠ 211
def svL (l : List Nat) (L : List (Option SV)) : Prop := ∀ v, some v ∈ L → svok l v
def svS (l : List Nat) (L : List SV) : Prop := ∀ v, v ∈ L → svok l v
def GD (Γ : WC) (K : Mem → Prop) (ad0 : Nat → Nat) (l0 : List Nat) (X : MX) (l : List Nat) (M : Mem) (cs sl : Nat) (L : List (Option SV)) (st : List SV) (pc : Nat) : Prop := ∀ ad, agr l0 ad0 ad → G (gc Γ K ad l) X M cs sl (evL ad L) (evS ad st) pc
theorem ev_agr {l : List Nat} {ad ad1 : Nat → Nat} (h : agr l ad ad1) {v : SV} (hv : svok l v) : ev ad1 v = ev ad v := by
  cases v with
  | inl v => rfl
  | inr o =>
    show Value.ref (ad1 o) = Value.ref (ad o)
    rw [h o hv.1 hv.2]
theorem evL_agr {l : List Nat} {ad ad1 : Nat → Nat} (h : agr l ad ad1) {L : List (Option SV)} (hv : svL l L) : evL ad1 L = evL ad L := by
  apply List.map_congr_left
  intro o ho
  cases o with
  | none => rfl
  | some v =>
    show some (ev ad1 v) = some (ev ad v)
    rw [ev_agr h (hv v ho)]
theorem evS_agr {l : List Nat} {ad ad1 : Nat → Nat} (h : agr l ad ad1) {L : List SV} (hv : svS l L) : evS ad1 L = evS ad L := by
  apply List.map_congr_left
  intro v hm
  exact ev_agr h (hv v hm)
/-- what is asked of numbers that stand in locals and on the stack -/
def svb (l : List Nat) (v : SV) : Bool := match v with
  | .inl _ => true
  | .inr o => (decide (o ∈ l) || decide (o = 999)) && !decide (o = 211)
theorem svb_ok {l : List Nat} {v : SV} (h : svb l v = true) : svok l v := by
  cases v with
  | inl v => trivial
  | inr o =>
    simp only [svb, Bool.and_eq_true, Bool.or_eq_true, decide_eq_true_eq, Bool.not_eq_true', decide_eq_false_iff_not] at h
    exact h
theorem svL_of {l : List Nat} {L : List (Option SV)} (h : L.all (fun o => match o with
  | none => true
  | some v => svb l v) = true) : svL l L := fun v hv => svb_ok (List.all_eq_true.mp h (some v) hv)
theorem svS_of {l : List Nat} {L : List SV} (h : L.all (svb l) = true) : svS l L := fun v hv => svb_ok (List.all_eq_true.mp h v hv)
/-- a number that is not used yet: zero, and named by nothing -/
def NZ (n : Nat) (l : List Nat) (M : Mem) : Prop := (n ∉ l ∧ n ≠ 999) ∧ ((∀ k, gI M n k = 0) ∧ (∀ k, gL M n k = 0) ∧ ∀ k, gR M n k = none) ∧ ∀ o, o ∈ l → ∀ k, gR M o k ≠ some n
theorem cE_ad {dA : Nat → ClassId} {ad ad1 : Nat → Nat} {M : Mem} {o : Nat} (h : ∀ k j, gR M o k = some j → ad1 j = ad j) (s : SE) : cE dA ad1 M o s = cE dA ad M o s := by
  have h1 : ∀ k, (gR M o k).map ad1 = (gR M o k).map ad := fun k => by
    cases hk : gR M o k with
    | none => rfl
    | some j =>
      show some (ad1 j) = some (ad j)
      rw [h k j hk]
  have h2 : ∀ j q, fVal ad1 M o j q = fVal ad M o j q := fun j q => by simp only [fVal, h1]
  simp only [cE, vlen, fsO, h1, h2]
def adu (ad : Nat → Nat) (n q : Nat) : Nat → Nat := fun o => if o = n then q else ad o
theorem adu_n {ad : Nat → Nat} {n q : Nat} : adu ad n q n = q := if_pos rfl
theorem adu_ne {ad : Nat → Nat} {n q o : Nat} (h : o ≠ n) : adu ad n q o = ad o := if_neg h
theorem adu_agr {l : List Nat} {ad : Nat → Nat} {n q : Nat} (h : n ∉ l ∧ n ≠ 999) : agr l ad (adu ad n q) := fun o ho _ => if_neg (fun z => by
  subst z
  exact ho.elim h.1 h.2)
theorem wO_new {Γ : WC} {K : Mem → Prop} {ad : Nat → Nat} {l : List Nat} {n q : Nat} {M : Mem} {e : SE} (hz : NZ n l M) (he : SHF n = some e) : wO (gc Γ K (adu ad n q) (l ++ [n])) M = wO (gc Γ K ad l) M ++ [(q, cE (wA Γ) (adu ad n q) M n e)] := by
  show (l ++ [n]).map (wCell (gc Γ K (adu ad n q) (l ++ [n])) M) = l.map (wCell (gc Γ K ad l) M) ++ _
  rw [List.map_append]
  congr 1
  · apply List.map_congr_left
    intro o ho
    have hne : o ≠ n := fun z => hz.1.1 (z ▸ ho)
    have g2 : wad (gc Γ K (adu ad n q) (l ++ [n])) o = wad (gc Γ K ad l) o := adu_ne hne
    have g3 := cE_ad (dA := wA Γ) (ad := ad) (ad1 := adu ad n q) (M := M) (o := o) (fun k j hj => adu_ne (fun z => hz.2.2 o ho k (z ▸ hj))) ((SHF o).getD (0, 0))
    simp only [wCell, g2]
    exact congrArg (fun z => (wad (gc Γ K ad l) o, z)) g3
  · show [(adu ad n q n, cE (wA Γ) (adu ad n q) M n ((SHF n).getD (0, 0)))] = _
    rw [adu_n, he]
    rfl
/-- what a context keeps must speak of references alone -/
def KR (K : Mem → Prop) : Prop := ∀ M M', (∀ a b, gR M' a b = gR M a b) → K M → K M'
theorem KR.tt : KR (fun _ => True) := fun _ _ _ _ => trivial
theorem HG.gc {Γ : WC} (h : HG Γ) {K : Mem → Prop} (hK : KR K) (ad : Nat → Nat) (l : List Nat) : HG (gc Γ K ad l) := ⟨h.1, h.2.1, h.2.2.1, h.2.2.2.1, h.2.2.2.2.1, hK⟩
theorem CX.gc {Γ : WC} {X : MX} {cc : ByteArray} {nL : Nat} {own : String} {ret : Option FieldType} {R0 : Room} (C : CX Γ X cc nL own ret R0) {K : Mem → Prop} (hK9 : KR K) (ad : Nat → Nat) (l : List Nat) : CX (gc Γ K ad l) X cc nL own ret R0 := by
  obtain ⟨p, e, R, s, m, args, below, meth, c, Q⟩ := X
  obtain ⟨hx, hb, hml, hown, hts, hW, hlk, hret, hR, hK, hSs, hG⟩ := C
  exact ⟨hx, hb, hml, hown, hts, hW, hlk, hret, hR, hK, hSs, hG.gc hK9 ad l⟩
theorem HS.gc {Γ : WC} (h : HS Γ) (K : Mem → Prop) (ad : Nat → Nat) (l : List Nat) : HS (gc Γ K ad l) := h
theorem HT.gc {Γ : WC} (h : HT Γ) {K : Mem → Prop} (hK : KR K) (ad : Nat → Nat) (l : List Nat) : HT (gc Γ K ad l) := ⟨h.1.gc hK ad l, h.2⟩
/-- another thing kept, fewer or other objects of the same world -/
theorem G.K {Γ : WC} {K K1 : Mem → Prop} {ad : Nat → Nat} {l : List Nat} {X : MX} {M : Mem} {cs sl : Nat} {L : List (Option Value)} {st : List Value} {pc : Nat} (h : K1 M) (k : G (gc Γ K1 ad l) X M cs sl L st pc) : G (gc Γ K ad l) X M cs sl L st pc := by
  obtain ⟨p, e, R, s, m, args, below, meth, c, Q⟩ := X
  intro H locs ls a1 a2 a3 a4 a5
  exact k H locs ls h a2 a3 a4 a5
theorem G.K' {Γ : WC} {K K1 : Mem → Prop} {ad : Nat → Nat} {l : List Nat} {X : MX} {M : Mem} {cs sl : Nat} {L : List (Option Value)} {st : List Value} {pc : Nat} (h : K M → K1 M) (k : G (gc Γ K1 ad l) X M cs sl L st pc) : G (gc Γ K ad l) X M cs sl L st pc := by
  obtain ⟨p, e, R, s, m, args, below, meth, c, Q⟩ := X
  intro H locs ls a1 a2 a3 a4 a5
  exact k H locs ls (h a1) a2 a3 a4 a5
theorem og {Γ : WC} {K : Mem → Prop} {ad : Nat → Nat} {l : List Nat} {o : Nat} {e : SE} (hn : l.Nodup) (ho : o ∈ l) (he : SHF o = some e) : On (gc Γ K ad l) o e := ⟨ho, hn, he⟩
def XI (X : MX) : Prop := match X with
  | (_, _, _, _, _, _, _, meth, _, _) => meth.name = "<init>"
/-- contract in a context that grows or moves: l before, l1 after; v what is answered -/
def QcD (Γ : WC) (K1 : Mem → Prop) (ad : Nat → Nat) (l l1 : List Nat) (v : Option SV) (M1 : Mem) : Array Value → State → Outcome → State → Prop := fun _ _ o t => ∃ ad1, agr l ad ad1 ∧ o = .returned (v.map (ev ad1)) ∧ WP (gc Γ K1 ad1 l1) M1 t
def CtD (Γ : WC) (K K1 : Mem → Prop) (y : MethodName) (cc : ByteArray) (nL : Nat) (ret : Option FieldType) (rm : Room) (l l1 : List Nat) (As : List SV) (M : Mem) (v : Option SV) (M1 : Mem) : Prop := ∀ ad, Met (wl Γ) y [Cond.code y cc nL ret] rm (va_Pc (evS ad As) (WP (gc Γ K ad l) M)) (QcD Γ K1 ad l l1 v M1) rm.cells rm.slots (fAg Γ)
def EndD (Γ : WC) (K1 : Mem → Prop) (X : MX) (ad : Nat → Nat) (l l1 : List Nat) (v : Option SV) (M1 : Mem) (mc ms : Nat) : Prop := match X with
  | (_, _, _, s, _, args, below, _, _, Q) => Q = MQ below (QcD Γ K1 ad l l1 v M1) args s mc ms (fAg Γ)
theorem mkD {Γ : WC} {K K1 : Mem → Prop} {y : MethodName} {own : String} {cc : ByteArray} {nL : Nat} {ret : Option FieldType} {rm : Room} {l l1 : List Nat} {As : List SV} {M M1 : Mem} {v : Option SV} (hG : HG Γ) (ho : y.cls = own) (hn : plainName y.cls = true) (hl : ∀ ad, (lg_sl (evS ad As)).length ≤ nL)
    (body : ∀ ad X, CX Γ X cc nL own ret rm → (y.name = "<init>" → XI X) → EndD Γ K1 X ad l l1 v M1 rm.cells rm.slots → G (gc Γ K ad l) X M 0 0 (lE (evS ad As)) [] 0) : CtD Γ K K1 y cc nL ret rm l l1 As M v M1 := by
  intro ad
  refine Met.ofW (cc := cc) (maxL := nL) (ret := ret) hn rfl ?_
  intro p e s m args below meth c s₁ B hml hv
  obtain ⟨rfl, hK, hW, hS, hP, hD⟩ := hv
  subst ho
  have hown : s.vm.findClass y.cls = some m.cls := findClass_of_methodNamed B.named
  have hb := body ad (p, e, rm, s, m, (evS ad As).toArray, below, meth, c, MQ below (QcD Γ K1 ad l l1 v M1) (evS ad As).toArray s rm.cells rm.slots (fAg Γ))
    ⟨B.exec, B.bytes, hml, hown, fun w hw => hG.1 w hw _ _ hW, hW, B.notSynchronized, B.returns, rfl, mkCX hG hW, hS, hG⟩ (fun hi => (name_of_methodNamed B.named B.method).1.trans hi) rfl
  have hle := lv_entry (evS ad As) (hl ad)
  rw [lg_entry_eq]
  have h2 := hb s.heap [] _ hK hP hD hS (by rw [hml, lE_args]; exact hle)
  exact h2
theorem ra_inj {U : State} {ty : FieldType} {a b : ClassId} (h1 : va_RA U a ty) (h2 : va_RA U b ty) : a = b := by
  cases ty <;> first | (obtain ⟨_, _, _, _, _, h4⟩ := h1; obtain ⟨_, _, _, _, _, h5⟩ := h2; exact Option.some.inj (h4.symm.trans h5)) | exact Option.some.inj (Eq.trans (Eq.symm h1) h2)
/-- an array of zeros -/
def zA (k N : Nat) : vp_A := match k with
  | 1 => (N, .inr (.inl (fun _ => 0)))
  | _ => (N, .inl (fun _ => 0))
theorem cE_zA {dA : Nat → ClassId} {ad : Nat → Nat} {M : Mem} {l : List Nat} {n N : Nat} (hz : NZ n l M) : ∀ k, k < 4 → cE dA ad M n (k, N) = .inl (dA k, zA k N) := by
  have hI : gI M n = fun _ => 0 := funext hz.2.1.1
  have hL : gL M n = fun _ => 0 := funext hz.2.1.2.1
  intro k hk
  match k, hk with
  | 0, _ => show (Sum.inl (dA 0, N, Sum.inl (gI M n)) : va_E) = _; rw [hI]; rfl
  | 1, _ => show (Sum.inl (dA 1, N, Sum.inr (Sum.inl (gL M n))) : va_E) = _; rw [hL]; rfl
  | 2, _ => show (Sum.inl (dA 2, N, Sum.inl (gI M n)) : va_E) = _; rw [hI]; rfl
  | 3, _ => show (Sum.inl (dA 3, N, Sum.inl (gI M n)) : va_E) = _; rw [hI]; rfl
def zV (k : Nat) : Value := match k with
  | 0 => .int 0
  | 1 => .long 0
  | _ => .null
theorem fsO_z {ad : Nat → Nat} {M : Mem} {l : List Nat} {n c : Nat} (hz : NZ n l M) : fsO ad M n c = (List.range (nFd c)).map (fun j => zV (kFd c j)) := by
  have h : ∀ j k, fVal ad M n j k = zV k := fun j k => by
    match k with
    | 0 => show Value.int (gI M n j) = _; rw [hz.2.1.1 j]; rfl
    | 1 => show Value.long (gL M n j) = _; rw [hz.2.1.2.1 j]; rfl
    | k + 2 => show va_rf ((gR M n j).map ad) = _; rw [hz.2.1.2.2 j]; rfl
  simp only [fsO, h]
section Con
variable {Γ : WC} {K9 : Mem → Prop} {X : MX} {M M1 : Mem} {cs sl : Nat} {pc : Nat} {cc : ByteArray} {nL : Nat} {own : String} {ret : Option FieldType} {R0 : Room} {ad0 ad : Nat → Nat} {l0 l : List Nat} {n : Nat} {L : List (Option SV)} {st : List SV}
theorem GD.to (K : GD Γ K9 ad0 l0 X l M cs sl L st pc) (hag : agr l0 ad0 ad) {l1 : List Nat} {ad1 : Nat → Nat} (h0 : ∀ o, o ∈ l0 → o ∈ l1) (h1 : agr l1 ad ad1) (hL : svL l1 L) (hs : svS l1 st) : G (gc Γ K9 ad1 l) X M cs sl (evL ad L) (evS ad st) pc := by
  rw [← evL_agr h1 hL, ← evS_agr h1 hs]
  exact K ad1 (hag.trans h1 h0)
theorem d_new {idx ci N cs1 sl1 : Nat} {Cn : String} {T : u_T} (C : CX Γ X cc nL own ret R0) (hsh : SHF n = some (ci + 6, N)) (hc : vwCl[ci]? = some (Cn, T, N)) (hu : ∀ w ∈ u_ws Cn T N, Gd w) {ty : Nat → FieldType} (hty : ∀ k, k < N → parseFieldDescriptor (T k).2.2.1 = some (ty k)) (hdf : ∀ k, k < N → defaultValue (ty k) = zV (kFd ci k)) (hcl : Gd (.classLink own idx Cn)) (hin : Gd (.instantiable Cn N)) (hini : Gd (.initialized Cn)) (hz : NZ n l M) (hR : cs + 1 ≤ R0.cells ∧ sl + N ≤ R0.slots) (hag : agr l0 ad0 ad) (h0 : ∀ o, o ∈ l0 → o ∈ l) {L1 : List (Option Value)} {st1 : List Value} (hL1 : L1 = evL ad L) (hs1 : st1 = evS ad st) (hL : svL l L) (hs : svS l st) (d : decode cc pc = .ok (.new idx, 3)) (q : Nat) (hq : pc + 3 = q) (ec : cs + 1 = cs1) (es : sl + N = sl1) (K : GD Γ K9 ad0 l0 X (l ++ [n]) M cs1 sl1 L (.inr n :: st) q) : G (gc Γ K9 ad l) X M cs sl L1 st1 pc := by
  subst hq; subst ec; subst es; subst hL1; subst hs1
  obtain ⟨p, e, R, s, m, args, below, meth, c, Q⟩ := X
  obtain ⟨hx, hb, hml, hown, hts, hW, hlk, hret, rfl, hK, hSs, hG⟩ := C
  intro H locs ls a1 a2 a3 a4 a5
  refine va_new hx hb (Ts := u_ws Cn T N) (fun w hw => hts w (hu w hw)) (fun w h => h) ty hty hown (hts _ hcl) (hts _ hin) (hts _ hini) hK a2 a3 a4 (fun q h => h) hc (fs := fsO ad M n ci) (fun j hj => ?_) hR.1 hR.2 d (fun q H1 hP hD hS => ?_)
  · rw [fsO_z hz, hdf j hj]
    have hl : j < nFd ci := by rw [nFd_of hc]; exact hj
    simp only [vp_V, List.getD_eq_getElem?_getD, List.getElem?_map, List.getElem?_range hl, Option.map_some, Option.getD_some]
  · have hw := wO_new (Γ := Γ) (K := K9) (ad := ad) (q := q) hz hsh
    have he : cE (wA Γ) (adu ad n q) M n (ci + 6, N) = (.inr (ci, fsO ad M n ci) : va_E) := by
      rw [cE_ad (ad := ad) (fun k j hj => by rw [hz.2.1.2.2 k] at hj; exact nomatch hj)]
      rfl
    rw [he] at hw
    have kk := K (adu ad n q) (hag.trans (adu_agr hz.1) h0)
    rw [evL_agr (adu_agr hz.1) hL] at kk
    have e2 : evS (adu ad n q) (.inr n :: st) = .ref q :: evS ad st := by
      show Value.ref (adu ad n q n) :: evS (adu ad n q) st = _
      rw [adu_n, evS_agr (adu_agr hz.1) hs]
    rw [e2] at kk
    exact kk H1 locs ls a1 (by rw [hw]; exact hP) (by rw [hw]; exact hD) hS a5
theorem d_newa {atype : ArrayType} {ty : FieldType} {N k cs1 sl1 : Nat} {x : Int32} (C : CX Γ X cc nL own ret R0) (hsh : SHF n = some (k, N)) (hk : k < 4) (htys : (tysA (wA Γ))[k]? = some (wA Γ k, ty)) (harr : Gd (.arrayClass ty)) (hty : newarray.typeOf atype = ty) (hdf : ∀ cA : ClassId, vp_cell cA (zA k N) = arrV cA N (fun _ => defaultValue ty)) (hx : ¬ x < 0 ∧ x.toNatClampNeg = N ∧ N * componentBytes ty ≤ 536870912) (hz : NZ n l M) (hR : cs + 1 ≤ R0.cells ∧ sl + N ≤ R0.slots) (hag : agr l0 ad0 ad) (h0 : ∀ o, o ∈ l0 → o ∈ l) {L1 : List (Option Value)} {st1 : List Value} (hL1 : L1 = evL ad L) (hs1 : st1 = .int x :: evS ad st) (hL : svL l L) (hs : svS l st) (d : decode cc pc = .ok (.newarray atype, 2)) (q : Nat) (hq : pc + 2 = q) (ec : cs + 1 = cs1) (es : sl + N = sl1) (K : GD Γ K9 ad0 l0 X (l ++ [n]) M cs1 sl1 L (.inr n :: st) q) : G (gc Γ K9 ad l) X M cs sl L1 st1 pc := by
  subst hq; subst ec; subst es; subst hL1; subst hs1
  obtain ⟨p, e, R, s, m, args, below, meth, c, Q⟩ := X
  obtain ⟨hx1, hb, hml, hown, hts, hW, hlk, hret, rfl, hK, hSs, hG⟩ := C
  intro H locs ls a1 a2 a3 a4 a5
  refine va_newa hx1 hb (by rw [hty]; exact hts _ harr) hty hK a2 a3 a4 (fun q h => h) (a0 := zA k N) hdf hx.1 hx.2.1 hx.2.2 hR.1 hR.2 d (fun q cA H1 hK1 hP hD hS => ?_)
  have hcA : cA = wA Γ k := by
    have h1 := (hK1.2 (tysA (wA Γ)).length (cA, ty) (by rw [List.getElem?_append_right (Nat.le_refl _), Nat.sub_self]; rfl)).2
    exact ra_inj h1 (hK.2 k _ htys).2
  subst hcA
  have hw := wO_new (Γ := Γ) (K := K9) (ad := ad) (q := q) hz hsh
  rw [cE_zA hz k hk] at hw
  have kk := K (adu ad n q) (hag.trans (adu_agr hz.1) h0)
  rw [evL_agr (adu_agr hz.1) hL] at kk
  have e2 : evS (adu ad n q) (.inr n :: st) = .ref q :: evS ad st := by
    show Value.ref (adu ad n q n) :: evS (adu ad n q) st = _
    rw [adu_n, evS_agr (adu_agr hz.1) hs]
  rw [e2] at kk
  exact kk H1 locs ls a1 (by rw [hw]; exact hP) (by rw [hw]; exact hD) hS a5
theorem d_newq {idx N cs1 sl1 : Nat} {x : Int32} (C : CX Γ X cc nL own ret R0) (hsh : SHF n = some (5, N)) (hN : N < 1000) (hcl : Gd (.classLink own idx "DecisionChain$Settings")) (hov : va_AO "DecisionChain$Settings" (wU Γ)) (hx : ¬ x < 0 ∧ x.toNatClampNeg = N ∧ N * 4 ≤ 536870912) (hz : NZ n l M) (hR : cs + 1 ≤ R0.cells ∧ sl + N ≤ R0.slots) (hag : agr l0 ad0 ad) (h0 : ∀ o, o ∈ l0 → o ∈ l) {L1 : List (Option Value)} {st1 : List Value} (hL1 : L1 = evL ad L) (hs1 : st1 = .int x :: evS ad st) (hL : svL l L) (hs : svS l st) (d : decode cc pc = .ok (.anewarray idx, 3)) (q : Nat) (hq : pc + 3 = q) (ec : cs + 1 = cs1) (es : sl + N = sl1) (K : GD Γ K9 ad0 l0 X (l ++ [n]) M cs1 sl1 L (.inr n :: st) q) : G (gc Γ K9 ad l) X M cs sl L1 st1 pc := by
  subst hq; subst ec; subst es; subst hL1; subst hs1
  obtain ⟨p, e, R, s, m, args, below, meth, c, Q⟩ := X
  obtain ⟨hx1, hb, hml, hown, hts, hW, hlk, hret, rfl, hK, hSs, hG⟩ := C
  intro H locs ls a1 a2 a3 a4 a5
  refine va_newq hx1 hb hown (hts _ hcl) (va_AO.moved hW.alike hov) hK a2 a3 a4 (fun q h => h) hx.1 hx.2.1 hx.2.2 hR.1 hR.2 d (fun q cA H1 hK1 hP hD hS => ?_)
  have hcA : cA = wA Γ 5 := by
    have h1 := (hK1.2 (tysA (wA Γ)).length (cA, .object "DecisionChain$Settings") (by rw [List.getElem?_append_right (Nat.le_refl _), Nat.sub_self]; rfl)).2
    exact ra_inj h1 (hK.2 4 (wA Γ 5, .object "DecisionChain$Settings") rfl).2
  subst hcA
  have hw := wO_new (Γ := Γ) (K := K9) (ad := ad) (q := q) hz hsh
  have hcE : cE (wA Γ) (adu ad n q) M n (5, N) = .inl (wA Γ 5, N, .inr (.inr (.inr (.inr (fun _ => none))))) := by
    have h9 := cE_q (dA := wA Γ) (ad := adu ad n q) (M := M) (o := n) (k := 0) hN
    rw [Nat.mul_zero, Nat.zero_add] at h9
    rw [h9]
    have : (fun j => (gR M n j).map (adu ad n q)) = fun _ => none := funext fun j => by rw [hz.2.1.2.2 j]; rfl
    rw [this]
  rw [hcE] at hw
  have kk := K (adu ad n q) (hag.trans (adu_agr hz.1) h0)
  rw [evL_agr (adu_agr hz.1) hL] at kk
  have e2 : evS (adu ad n q) (.inr n :: st) = .ref q :: evS ad st := by
    show Value.ref (adu ad n q n) :: evS (adu ad n q) st = _
    rw [adu_n, evS_agr (adu_agr hz.1) hs]
  rw [e2] at kk
  exact kk H1 locs ls a1 (by rw [hw]; exact hP) (by rw [hw]; exact hD) hS a5
theorem d_getS {o N idx ci k j : Nat} {L1 : List (Option Value)} {st1 : List Value} (C : CX Γ X cc nL own ret R0) (lk : FLk own idx ci k 2) (hs : On (gc Γ K9 ad l) o (ci + 6, N)) (hr : gR M o k = some j) (d : decode cc pc = .ok (.getfield idx, 3)) (q : Nat) (hq : pc + 3 = q) (K : G (gc Γ K9 ad l) X M cs sl L1 (.ref (ad j) :: st1) q) : G (gc Γ K9 ad l) X M cs sl L1 (.ref (ad o) :: st1) pc := by
  subst hq
  obtain ⟨p, e, R, s, m, args, below, meth, c, Q⟩ := X
  obtain ⟨hx, hb, hml, hown, hts, hW, hlk, hret, hR, hK, hSs, hG⟩ := C
  intro H locs ls a1 a2 a3 a4 a5
  obtain ⟨C, T, N, h1, h2, h3, h4, h5⟩ := lk
  have hv : (fsO ad M o ci)[k]? = some (.ref (ad j)) := by
    rw [fsO_at (by rw [nFd_of h1]; exact h2), h3]
    simp only [fVal, hr, Option.map_some, va_rf]
  exact va_get hx hb (Ts := u_ws C T N) (fun w hw => hts w (h4 w hw)) (fun w h => h) hown hK a2 _ (wO_at (Γ := gc Γ K9 ad l) hs) h1 k h2 (hts _ h5) (fun _ h => h) hv d (K H locs ls a1 a2 a3 a4 a5)
theorem d_obj {idx a : Nat} {L1 : List (Option Value)} {st1 : List Value} (C : CX Γ X cc nL own ret R0) (ln : Gd (.methodLink own idx objectInit)) (mi : Gd (.instanceMethod objectInit)) (cw : Gd (.code objectInit ⟨#[0xb1]⟩ 1 none)) (hf : 1 ≤ R0.frames ∧ 20 ≤ R0.locals) (hw : (st1.map fun v => v.category).sum ≤ 8) (d : decode cc pc = .ok (.invokespecial idx, 3)) (q : Nat) (hq : pc + 3 = q) (K : G (gc Γ K9 ad l) X M cs sl L1 st1 q) : G (gc Γ K9 ad l) X M cs sl L1 (.ref a :: st1) pc := by
  subst hq
  obtain ⟨p, e, R, s, m, args, below, meth, c, Q⟩ := X
  obtain ⟨hx, hb, hml, hown, hts, hW, hlk, hret, rfl, hK, hSs, hG⟩ := C
  intro H locs ls a1 a2 a3 a4 a5
  refine W.objInit hx hb hown (hts _ ln) (hts _ mi) (hts _ cw) rfl a5.1 rfl d hf.1 (by show 0 + _ + 12 ≤ _; omega) ?_
  exact K H locs ls a1 a2 a3 a4 a5
theorem d_vret {K1 : Mem → Prop} {l1 : List Nat} {mc ms : Nat} {L1 : List (Option Value)} (C : CX Γ X cc nL own none R0) (E : EndD Γ K1 X ad0 l0 l1 none M mc ms) (hag : agr l0 ad0 ad) (hK1 : K9 M → K1 M) (hc : cs ≤ mc) (hs : sl ≤ ms) (d : decode cc pc = .ok (.return_, 1)) : G (gc Γ K9 ad l1) X M cs sl L1 [] pc := by
  obtain ⟨p, e, R, s, m, args, below, meth, c, Q⟩ := X
  obtain ⟨hx, hb, hml, hown, hts, hW, hlk, hret, hR, hK, hSs, hG⟩ := C
  intro H locs ls a1 a2 a3 a4 a5
  refine W.widen hc hs ?_
  rw [show Q = _ from E]
  exact W.vret hx hb hret (fun t ht hW1 => ⟨ad, hag, rfl, hK1 a1, State.WarmedH.trans hW hW1, by rw [ht]; exact S_nil a4, by rw [ht]; exact a2, a3⟩) a4.2.2 d hlk
theorem d_iret {K1 : Mem → Prop} {l1 : List Nat} {mc ms : Nat} {x : Int32} {ty : FieldType} {L1 : List (Option Value)} (C : CX Γ X cc nL own (some ty) R0) (E : EndD Γ K1 X ad0 l0 l1 (some (.inl (.int x))) M mc ms) (hag : agr l0 ad0 ad) (hz : narrow ty (.int x) = .int x) (hK1 : K9 M → K1 M) (hc : cs ≤ mc) (hs : sl ≤ ms) (d : decode cc pc = .ok (.ireturn, 1)) : G (gc Γ K9 ad l1) X M cs sl L1 [.int x] pc := by
  obtain ⟨p, e, R, s, m, args, below, meth, c, Q⟩ := X
  obtain ⟨hx, hb, hml, hown, hts, hW, hlk, hret, hR, hK, hSs, hG⟩ := C
  intro H locs ls a1 a2 a3 a4 a5
  refine W.widen hc hs ?_
  rw [show Q = _ from E]
  exact W.zret hx hb hret hz (fun t ht hW1 => ⟨ad, hag, rfl, hK1 a1, State.WarmedH.trans hW hW1, by rw [ht]; exact S_nil a4, by rw [ht]; exact a2, a3⟩) a4.2.2 d hlk
theorem d_aret {K1 : Mem → Prop} {l1 : List Nat} {mc ms o : Nat} {ty : FieldType} {L1 : List (Option Value)} (C : CX Γ X cc nL own (some ty) R0) (hty : (∃ n, ty = FieldType.object n) ∨ ∃ t, ty = FieldType.array t) (E : EndD Γ K1 X ad0 l0 l1 (some (.inr o)) M mc ms) (hag : agr l0 ad0 ad) (hK1 : K9 M → K1 M) (hc : cs ≤ mc) (hs : sl ≤ ms) (d : decode cc pc = .ok (.areturn, 1)) : G (gc Γ K9 ad l1) X M cs sl L1 [.ref (ad o)] pc := by
  obtain ⟨p, e, R, s, m, args, below, meth, c, Q⟩ := X
  obtain ⟨hx, hb, hml, hown, hts, hW, hlk, hret, hR, hK, hSs, hG⟩ := C
  intro H locs ls a1 a2 a3 a4 a5
  refine W.widen hc hs ?_
  rw [show Q = _ from E]
  exact W.aret hx hb hret hty (Or.inr ⟨_, rfl⟩) (fun t ht hW1 => ⟨ad, hag, rfl, hK1 a1, State.WarmedH.trans hW hW1, by rw [ht]; exact S_nil a4, by rw [ht]; exact a2, a3⟩) a4.2.2 d hlk
/-- behind a call in a context that moved -/
theorem callD {p : Program} {la : Launch} {e : Env} {R : Room} {s : State} {m : MethodId} {args : Array Value} {below : List Frame} {meth : Method} {c : Code} {H : Heap} {locs : List Loc} {mc ms : Nat} {l1 : List Nat} {K1 : Mem → Prop} {v : Option SV} {Q : State → Prop} {ls : Array Slot} {st0 rest : List Value} {a0 : Array Value}
    (hr : va_Run p la e R s m args below meth c H locs cs sl mc ms (F0 m pc ls st0) rest (QcD Γ K1 ad l l1 v M1 a0) (fAg Γ)) (hS : va_S (fAg Γ) (wU Γ).heap H locs)
    (kk : ∀ (H1 : Heap) (locs1 : List Loc) (ad1 : Nat → Nat), agr l ad ad1 → K1 M1 → va_P (wD Γ) vwCl (wO (gc Γ K1 ad1 l1) M1) H1 → va_D (fAg Γ) (wO (gc Γ K1 ad1 l1) M1) → va_S (fAg Γ) (wU Γ).heap H1 locs1 → W p la e R s m args below meth c H1 locs1 (cs + mc) (sl + ms) Q (F0 m (pc + 3) ls ((v.map (ev ad1)).toList ++ rest))) : W p la e R s m args below meth c H locs cs sl Q (F0 m pc ls st0) := by
  intro T hT X
  obtain ⟨v', st₀, t, T', L, h0, X', hL, e1, e2, ⟨ad1, hg, hv, hK, hW, hS1, hP1, hD1⟩, st⟩ := hr T hT X
  cases hv
  obtain ⟨t2, a1, b1⟩ := kk T'.heap (locs ++ L) ad1 hg hK (by rw [e1]; exact hP1) hD1 ⟨by rw [e1]; exact hS1.1, fun q h1 h2 => by rw [e1]; exact hS1.2.1 q h1 h2, fun q hq => (List.mem_append.mp hq).elim (hS.2.2 q) (hL q)⟩ T' rfl X'
  exact ⟨t2, st t2 a1, b1⟩
/-- the class of a receiver, by its shape -/
theorem rc_gc {o ci nn : Nat} {K : Mem → Prop} (hs : On (gc Γ K ad l) o (ci + 6, nn)) {q : vw_C} (hq : vwCl[ci]? = some q) : RC (gc Γ K ad l) o q.1 := ⟨ci, nn, q, hs, hq, rfl⟩
section CallsD
variable {K1 : Mem → Prop} {y x : MethodName} {bytes : ByteArray} {maxL idx o k cs1 sl1 : Nat} {rm : Room} {As : List SV} {l1 : List Nat} {v : Option SV} {rt : Option FieldType}
/-- what a call in a moving context goes on with -/
def KD (Γ : WC) (K1 : Mem → Prop) (ad0 : Nat → Nat) (l0 : List Nat) (X : MX) (l1 : List Nat) (M1 : Mem) (cs sl : Nat) (L : List (Option SV)) (v : Option SV) (st : List SV) (pc : Nat) : Prop := K1 M1 → GD Γ K1 ad0 l0 X l1 M1 cs sl L (v.toList ++ st) pc
theorem evS_app {ad : Nat → Nat} {v : Option SV} {st : List SV} : evS ad (v.toList ++ st) = (v.map (ev ad)).toList ++ evS ad st := by
  cases v <;> rfl
theorem evS_len {ad : Nat → Nat} {st : List SV} : (evS ad st).length = st.length := by simp [evS]
theorem KD.go (K : KD Γ K1 ad0 l0 X l1 M1 cs1 sl1 L v st pc) (hag : agr l0 ad0 ad) (h0 : ∀ o, o ∈ l0 → o ∈ l) (hL : svL l L) (hs : svS l st) {ad1 : Nat → Nat} (hg : agr l ad ad1) (hK1 : K1 M1) : G (gc Γ K1 ad1 l1) X M1 cs1 sl1 (evL ad L) ((v.map (ev ad1)).toList ++ evS ad st) pc := by
  rw [← evL_agr hg hL, ← evS_agr hg hs, ← evS_app]
  exact K hK1 ad1 (hag.trans hg h0)
theorem d_cI (C : CX Γ X cc nL own ret R0) (hM : CtD Γ K9 K1 y bytes maxL none rm l l1 (.inr o :: As) M v M1) (mw : MW y bytes maxL none k) (ln : Gd (.methodLink own idx y)) (mi : Gd (.instanceMethod y) ∧ y.name = "<init>") (hr : RO rm R0 maxL cs sl) (hn : As.length = k) (hag : agr l0 ad0 ad) (h0 : ∀ o, o ∈ l0 → o ∈ l) {L1 : List (Option Value)} {st1 : List Value} (hL1 : L1 = evL ad L) (hs1 : st1 = (evS ad As).reverse ++ .ref (ad o) :: evS ad st) (hL : svL l L) (hs : svS l st) (hw : ((evS ad st).map fun v => v.category).sum ≤ 8) (d : decode cc pc = .ok (.invokespecial idx, 3)) (q : Nat) (hq : pc + 3 = q) (ec : cs + rm.cells = cs1) (es : sl + rm.slots = sl1) (K : KD Γ K1 ad0 l0 X l1 M1 cs1 sl1 L v st q) : G (gc Γ K9 ad l) X M cs sl L1 st1 pc := by
  have K2 := fun {ad1} => K.go (ad := ad) hag h0 hL hs (ad1 := ad1)
  obtain ⟨p, e, R, s, m, args, below, meth, c, Q⟩ := X
  obtain ⟨hx, hb, hml, hown, hts, hW, hlk, hret, rfl, hK, hSs, hG⟩ := C
  subst hL1; subst hs1; subst hml; subst hq; subst ec; subst es
  intro H locs ls a1 a2 a3 a4 a5
  exact callD (va_runI (Ts := []) (own := own) ⟨hx, hb, rfl, hown, fun _ h => nomatch h⟩ (hM ad) ⟨cw_B hW hts hG mw hr ln, mi.2, hts _ mi.1⟩ ⟨WP.blind (Γ := gc Γ K9 ad l), fun U hU hU2 => ⟨rfl, a1, State.WarmedH.trans hW hU2, by rw [hU]; exact S_nil a4, by rw [hU]; exact a2, a3⟩⟩ rfl (evS_len.trans hn) a5.1 rfl (lv_room hw) d ⟨hr.2.2.1, hr.2.2.2⟩) a4 (fun H1 locs1 ad1 hg hK1 b1 b2 b3 => K2 hg hK1 H1 locs1 ls hK1 b1 b2 b3 a5)
theorem d_cJ {host : String} (C : CX Γ X cc nL own ret R0) (hM : CtD Γ K9 K1 y bytes maxL none rm l l1 (.inr o :: As) M v M1) (mw : MW y bytes maxL none k) (ln : Gd (.methodLinkNest own idx y host)) (mi : Gd (.instanceMethod y) ∧ y.name = "<init>") (hr : RO rm R0 maxL cs sl) (hn : As.length = k) (hag : agr l0 ad0 ad) (h0 : ∀ o, o ∈ l0 → o ∈ l) {L1 : List (Option Value)} {st1 : List Value} (hL1 : L1 = evL ad L) (hs1 : st1 = (evS ad As).reverse ++ .ref (ad o) :: evS ad st) (hL : svL l L) (hs : svS l st) (hw : ((evS ad st).map fun v => v.category).sum ≤ 8) (d : decode cc pc = .ok (.invokespecial idx, 3)) (q : Nat) (hq : pc + 3 = q) (ec : cs + rm.cells = cs1) (es : sl + rm.slots = sl1) (K : KD Γ K1 ad0 l0 X l1 M1 cs1 sl1 L v st q) : G (gc Γ K9 ad l) X M cs sl L1 st1 pc := by
  have K2 := fun {ad1} => K.go (ad := ad) hag h0 hL hs (ad1 := ad1)
  obtain ⟨p, e, R, s, m, args, below, meth, c, Q⟩ := X
  obtain ⟨hx, hb, hml, hown, hts, hW, hlk, hret, rfl, hK, hSs, hG⟩ := C
  subst hL1; subst hs1; subst hml; subst hq; subst ec; subst es
  intro H locs ls a1 a2 a3 a4 a5
  exact callD (va_runIN (Ts := []) (own := own) ⟨hx, hb, rfl, hown, fun _ h => nomatch h⟩ (hM ad) ⟨cw_N hW hts hG mw hr ln, mi.2, hts _ mi.1⟩ ⟨WP.blind (Γ := gc Γ K9 ad l), fun U hU hU2 => ⟨rfl, a1, State.WarmedH.trans hW hU2, by rw [hU]; exact S_nil a4, by rw [hU]; exact a2, a3⟩⟩ rfl (evS_len.trans hn) a5.1 rfl (lv_room hw) d ⟨hr.2.2.1, hr.2.2.2⟩) a4 (fun H1 locs1 ad1 hg hK1 b1 b2 b3 => K2 hg hK1 H1 locs1 ls hK1 b1 b2 b3 a5)
theorem d_cV (C : CX Γ X cc nL own ret R0) (hM : CtD Γ K9 K1 y bytes maxL rt rm l l1 (.inr o :: As) M v M1) (mw : MW y bytes maxL rt k) (ln : Gd (.methodLink own idx y)) (mi : Gd (.instanceMethod y) ∧ Gd (.selects y.cls y y)) (ho : RC (gc Γ K9 ad l) o y.cls) (hr : RO rm R0 maxL cs sl) (hn : As.length = k) (hag : agr l0 ad0 ad) (h0 : ∀ o, o ∈ l0 → o ∈ l) {L1 : List (Option Value)} {st1 : List Value} (hL1 : L1 = evL ad L) (hs1 : st1 = (evS ad As).reverse ++ .ref (ad o) :: evS ad st) (hL : svL l L) (hs : svS l st) (hw : ((evS ad st).map fun v => v.category).sum ≤ 8) (d : decode cc pc = .ok (.invokevirtual idx, 3)) (q : Nat) (hq : pc + 3 = q) (ec : cs + rm.cells = cs1) (es : sl + rm.slots = sl1) (K : KD Γ K1 ad0 l0 X l1 M1 cs1 sl1 L v st q) : G (gc Γ K9 ad l) X M cs sl L1 st1 pc := by
  have K2 := fun {ad1} => K.go (ad := ad) hag h0 hL hs (ad1 := ad1)
  obtain ⟨p, e, R, s, m, args, below, meth, c, Q⟩ := X
  obtain ⟨hx, hb, hml, hown, hts, hW, hlk, hret, rfl, hK, hSs, hG⟩ := C
  subst hL1; subst hs1; subst hml; subst hq; subst ec; subst es
  intro H locs ls a1 a2 a3 a4 a5
  exact callD (va_runV (Ts := []) (own := own) ⟨hx, hb, rfl, hown, fun _ h => nomatch h⟩ (hM ad) ⟨cw_B hW hts hG mw hr ln, hts _ mi.1, hts _ mi.2⟩ ⟨WP.blind (Γ := gc Γ K9 ad l), ho.recv hK a2, fun U hU hU2 => ⟨rfl, a1, State.WarmedH.trans hW hU2, by rw [hU]; exact S_nil a4, by rw [hU]; exact a2, a3⟩⟩ rfl (evS_len.trans hn) a5.1 rfl (lv_room hw) d ⟨hr.2.2.1, hr.2.2.2⟩) a4 (fun H1 locs1 ad1 hg hK1 b1 b2 b3 => K2 hg hK1 H1 locs1 ls hK1 b1 b2 b3 a5)
theorem d_cS (C : CX Γ X cc nL own ret R0) (hM : CtD Γ K9 K1 y bytes maxL rt rm l l1 As M v M1) (mw : MW y bytes maxL rt k) (ln : Gd (.methodLink own idx y)) (mi : Gd (.static y)) (hr : RO rm R0 maxL cs sl) (hn : As.length = k) (hag : agr l0 ad0 ad) (h0 : ∀ o, o ∈ l0 → o ∈ l) {L1 : List (Option Value)} {st1 : List Value} (hL1 : L1 = evL ad L) (hs1 : st1 = (evS ad As).reverse ++ evS ad st) (hL : svL l L) (hs : svS l st) (hw : ((evS ad st).map fun v => v.category).sum ≤ 8) (d : decode cc pc = .ok (.invokestatic idx, 3)) (q : Nat) (hq : pc + 3 = q) (ec : cs + rm.cells = cs1) (es : sl + rm.slots = sl1) (K : KD Γ K1 ad0 l0 X l1 M1 cs1 sl1 L v st q) : G (gc Γ K9 ad l) X M cs sl L1 st1 pc := by
  have K2 := fun {ad1} => K.go (ad := ad) hag h0 hL hs (ad1 := ad1)
  obtain ⟨p, e, R, s, m, args, below, meth, c, Q⟩ := X
  obtain ⟨hx, hb, hml, hown, hts, hW, hlk, hret, rfl, hK, hSs, hG⟩ := C
  subst hL1; subst hs1; subst hml; subst hq; subst ec; subst es
  intro H locs ls a1 a2 a3 a4 a5
  exact callD (va_runS (Ts := []) (own := own) ⟨hx, hb, rfl, hown, fun _ h => nomatch h⟩ (hM ad) ⟨cw_B hW hts hG mw hr ln, hts _ mi⟩ ⟨WP.blind (Γ := gc Γ K9 ad l), fun U hU hU2 => ⟨rfl, a1, State.WarmedH.trans hW hU2, by rw [hU]; exact S_nil a4, by rw [hU]; exact a2, a3⟩⟩ rfl (evS_len.trans hn) a5.1 rfl (lv_room hw) d ⟨hr.2.2.1, hr.2.2.2⟩) a4 (fun H1 locs1 ad1 hg hK1 b1 b2 b3 => K2 hg hK1 H1 locs1 ls hK1 b1 b2 b3 a5)
end CallsD
end Con
/-! a private or inherited method, by a reference of the class above -/
theorem sel_priv {C : String} {y x0 y0 : MethodName} {s : State} {args : Array Value} (hy : y.cls ≠ "java/lang/invoke/MethodHandle" ∧ y.cls ≠ "java/lang/invoke/VarHandle")
    (h0 : (Cond.selects C x0 y0).before args s = true) (hc0 : y0.cls = y.cls) (hpriv : (Cond.privateMethod y).before args s = true) (hinst : (Cond.instanceMethod y).before args s = true) :
    (Cond.selects C y y).before args s = true := by
  obtain ⟨c, r, m0, hc, -, hn0, -, k0, hk0, hni0⟩ := Cond.selects_spec h0
  obtain ⟨mk, methM, hnamed, hmethM, -, -⟩ := Cond.instanceMethod_spec hinst
  have hfound : s.methodFound? y.cls y.name y.desc = some mk := State.methodFound?_of_named hnamed hy
  have hcls : mk.cls = m0.cls := by
    have h1 := findClass_of_methodNamed hnamed
    have h2 := findClass_of_methodNamed hn0
    rw [hc0] at h2
    exact Option.some.inj (h1.symm.trans h2)
  have hsel : selectMethod {} s.vm c mk = .method mk := selectMethod_private hmethM (Cond.privateMethod_at hpriv mk methM hnamed hmethM)
  simp only [Cond.before, Cond.holds, Cond.value, hc, hfound, hnamed, hsel, hcls, hk0]
  simp; exact hni0
