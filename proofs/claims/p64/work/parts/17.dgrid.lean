/-! a grid is made: the world with its rows, numbers one behind the other -/
theorem mz_D {A : Nat → Prop} {ws nw : va_W} {n : Nat} (hD : va_D A ws) (h1 : ∀ (k : Nat) (q : Nat × va_E), ws[k]? = some q → q.1 < n) (h2 : ∀ (k : Nat) (q : Nat × va_E), nw[k]? = some q → q.1 = n + k ∧ A q.1) : va_D A (ws ++ nw) := by
  refine ⟨fun i j x y hi hj hxy => ?_, fun k x hx => ?_⟩
  · by_cases a : i < ws.length <;> by_cases b : j < ws.length
    · rw [List.getElem?_append_left a] at hi
      rw [List.getElem?_append_left b] at hj
      exact hD.1 i j x y hi hj hxy
    · rw [List.getElem?_append_left a] at hi
      rw [List.getElem?_append_right (by omega)] at hj
      have := h1 _ _ hi
      have := (h2 _ _ hj).1
      omega
    · rw [List.getElem?_append_right (by omega)] at hi
      rw [List.getElem?_append_left b] at hj
      have := h1 _ _ hj
      have := (h2 _ _ hi).1
      omega
    · rw [List.getElem?_append_right (by omega)] at hi hj
      have := (h2 _ _ hi).1
      have := (h2 _ _ hj).1
      omega
  · by_cases a : k < ws.length
    · rw [List.getElem?_append_left a] at hx
      exact hD.2 k x hx
    · rw [List.getElem?_append_right (by omega)] at hx
      exact (h2 _ _ hx).2
def adG (ad : Nat → Nat) (base N h : Nat) : Nat → Nat := fun o => if base ≤ o ∧ o < base + N then h + (o - base) else ad o
theorem adG_in {ad : Nat → Nat} {base N h i : Nat} (hi : i < N) : adG ad base N h (base + i) = h + i := by
  rw [adG, if_pos ⟨by omega, by omega⟩]
  omega
/-- what is asked of a grid's numbers -/
def GZ (base N : Nat) (l : List Nat) (M M1 : Mem) : Prop := (∀ i, i < N → base + i ∉ l ∧ base + i ≠ 999 ∧ base + i ≠ 211) ∧ M1.1 = M.1 ∧ M1.2.1 = M.2.1 ∧ (∀ o, o ∈ l → ∀ k, gR M1 o k = gR M o k) ∧ ∀ o, o ∈ l → ∀ k i, i < N → gR M o k ≠ some (base + i)
/-- what the cells must be -/
def GCells (Γ : WC) (base N : Nat) (M1 : Mem) (cells : Nat → List Cell) : Prop := ∀ h, (cells h).length = N ∧ ∀ (ad1 : Nat → Nat), (∀ i, i < N → ad1 (base + i) = h + i) → ∀ k, k < N → ∃ a, cE (wA Γ) ad1 M1 (base + k) ((SHF (base + k)).getD (0, 0)) = .inl a ∧ (cells h)[k]? = some (vp_cell a.1 a.2)
section Grid
variable {Γ : WC} {K9 : Mem → Prop} {X : MX} {M M1 : Mem} {cs sl : Nat} {pc : Nat} {cc : ByteArray} {nL : Nat} {own : String} {ret : Option FieldType} {R0 : Room} {ad0 ad : Nat → Nat} {l0 l : List Nat} {base N : Nat} {L : List (Option SV)} {st : List SV}
theorem grid_go (hz : GZ base N l M M1) {cells : Nat → List Cell} (hc : GCells Γ base N M1 cells) (hK1 : K9 M → K9 M1) (hag : agr l0 ad0 ad) (h0 : ∀ o, o ∈ l0 → o ∈ l) (hL : svL l L) (hs : svS l st) (hN : 0 < N) {cs1 sl1 : Nat} (K : GD Γ K9 ad0 l0 X (l ++ List.range' base N) M1 cs1 sl1 L (.inr base :: st) pc) :
    match X with
    | (p, e, R, s, m, args, below, meth, c, Q) => ∀ (H : Heap) (locs : List Loc) (ls : Array Slot), K9 M → va_P (wD Γ) vwCl (wO (gc Γ K9 ad l) M) H → va_D (fAg Γ) (wO (gc Γ K9 ad l) M) → va_S (fAg Γ) (wU Γ).heap H locs → lv_has ls c.maxLocals (lO 0 (evL ad L)) →
      W p (wl Γ) e R s m args below meth c (H ++ (cells H.size).toArray) locs cs1 sl1 Q (F0 m pc ls (.ref H.size :: evS ad st)) := by
  obtain ⟨p, e, R, s, m, args, below, meth, c, Q⟩ := X
  intro H locs ls a1 a2 a3 a4 a5
  obtain ⟨hnew, hI, hLg, hR, hno⟩ := hz
  obtain ⟨hlen, hcell⟩ := hc H.size
  have hne : ∀ o, o ∈ l → ¬ (base ≤ o ∧ o < base + N) := fun o ho z => (hnew (o - base) (by omega)).1 (by rw [show base + (o - base) = o by omega]; exact ho)
  have hag1 : agr l ad (adG ad base N H.size) := fun o ho hn => by
    rw [adG, if_neg]
    rcases ho with ho | ho
    · exact hne o ho
    · intro z
      exact (hnew (o - base) (by omega)).2.1 (by omega)
  have hadin : ∀ i, i < N → adG ad base N H.size (base + i) = H.size + i := fun i hi => adG_in hi
  have hold : ∀ o, o ∈ l → ∀ sh : SE, cE (wA Γ) (adG ad base N H.size) M1 o sh = cE (wA Γ) ad M o sh := fun o ho sh => by
    have e1 : gI M1 o = gI M o := by show M1.1 o = M.1 o; rw [hI]
    have e2 : gL M1 o = gL M o := by show M1.2.1 o = M.2.1 o; rw [hLg]
    have e3 : gR M1 o = gR M o := funext (hR o ho)
    have h1 : cE (wA Γ) (adG ad base N H.size) M1 o sh = cE (wA Γ) (adG ad base N H.size) M o sh := by
      have h4 : ∀ j q, fVal (adG ad base N H.size) M1 o j q = fVal (adG ad base N H.size) M o j q := fun j q => by simp only [fVal, e1, e2, e3]
      simp only [cE, vlen, fsO, e1, e2, e3, h4]
    rw [h1]
    exact cE_ad (fun k j hj => by
      rw [adG, if_neg]
      intro z
      exact hno o ho k (j - base) (by omega) (by rw [show base + (j - base) = j by omega]; exact hj)) sh
  have hw : wO (gc Γ K9 (adG ad base N H.size) (l ++ List.range' base N)) M1 = wO (gc Γ K9 ad l) M ++ (List.range' base N).map (wCell (gc Γ K9 (adG ad base N H.size) (l ++ List.range' base N)) M1) := by
    show (l ++ List.range' base N).map _ = l.map _ ++ _
    rw [List.map_append]
    congr 1
    apply List.map_congr_left
    intro o ho
    have g2 : adG ad base N H.size o = ad o := by rw [adG, if_neg (hne o ho)]
    show (adG ad base N H.size o, cE (wA Γ) (adG ad base N H.size) M1 o ((SHF o).getD (0, 0))) = (ad o, cE (wA Γ) ad M o ((SHF o).getD (0, 0)))
    rw [g2, hold o ho]
  have hnw : ∀ (k : Nat) (q : Nat × va_E), ((List.range' base N).map (wCell (gc Γ K9 (adG ad base N H.size) (l ++ List.range' base N)) M1))[k]? = some q → k < N ∧ q = (H.size + k, cE (wA Γ) (adG ad base N H.size) M1 (base + k) ((SHF (base + k)).getD (0, 0))) := fun k q hq => by
    rw [List.getElem?_map] at hq
    by_cases hk : k < N
    · rw [List.getElem?_range' hk, Nat.one_mul] at hq
      refine ⟨hk, ?_⟩
      have h9 := (Option.some.inj hq).symm
      rw [h9]
      show (adG ad base N H.size (base + k), _) = _
      rw [hadin k hk]
      rfl
    · rw [List.getElem?_eq_none (by rw [List.length_range']; omega)] at hq
      exact nomatch hq
  have hP1 : va_P (wD Γ) vwCl (wO (gc Γ K9 ad l) M) (H ++ (cells H.size).toArray) := a2.kept (fun k q hk => by
    have := (a2 k q hk).lt
    rw [Array.getElem?_append_left this])
  have hP : va_P (wD Γ) vwCl (wO (gc Γ K9 (adG ad base N H.size) (l ++ List.range' base N)) M1) (H ++ (cells H.size).toArray) := by
    rw [hw]
    refine hP1.app (fun k q hq => ?_)
    obtain ⟨hk, rfl⟩ := hnw k q hq
    obtain ⟨a, h1, h2⟩ := hcell _ hadin k hk
    show va_at _ _ (H.size + k, cE _ _ _ _ _) _
    rw [h1]
    show (H ++ (cells H.size).toArray)[H.size + k]? = some (vp_cell a.1 a.2)
    rw [Array.getElem?_append_right (by omega), show H.size + k - H.size = k by omega]
    simpa using h2
  have hD : va_D (fAg Γ) (wO (gc Γ K9 (adG ad base N H.size) (l ++ List.range' base N)) M1) := by
    rw [hw]
    refine mz_D a3 (fun k q hk => (a2 k q hk).lt) (fun k q hq => ?_)
    obtain ⟨hk, rfl⟩ := hnw k q hq
    exact ⟨rfl, by show (wU Γ).heap.size ≤ H.size + k; have := a4.1; omega⟩
  have hS : va_S (fAg Γ) (wU Γ).heap (H ++ (cells H.size).toArray) locs := ⟨by rw [Array.size_append]; have := a4.1; omega, fun q h1 h2 => by
    rw [Array.getElem?_append_left (Nat.lt_of_lt_of_le h1 a4.1)]
    exact a4.2.1 q h1 h2, a4.2.2⟩
  have kk := K (adG ad base N H.size) (hag.trans hag1 h0)
  rw [evL_agr hag1 hL] at kk
  have e2 : evS (adG ad base N H.size) (.inr base :: st) = .ref H.size :: evS ad st := by
    show Value.ref (adG ad base N H.size base) :: evS _ st = _
    have := hadin 0 hN
    rw [Nat.add_zero] at this
    rw [this, evS_agr hag1 hs]
    rfl
  rw [e2] at kk
  exact kk _ locs ls (hK1 a1) hP hD hS a5
/-- the classes of the grids -/
def HQ (Γ : WC) : Prop := ((∃ k, (wU Γ).vm.classes[wA Γ 6]? = some k ∧ k.kind = .array (wA Γ 0) (.array .int)) ∧ (wU Γ).vm.findClass "[[I" = some (wA Γ 6)) ∧ ((∃ k, (wU Γ).vm.classes[wA Γ 7]? = some k ∧ k.kind = .array (wA Γ 6) (.array (.array .int))) ∧ (wU Γ).vm.findClass "[[[I" = some (wA Γ 7)) ∧
  ((∃ k, (wU Γ).vm.classes[wA Γ 8]? = some k ∧ k.kind = .array (wA Γ 3) (.array .boolean)) ∧ (wU Γ).vm.findClass "[[Z" = some (wA Γ 8)) ∧ (∃ k comp, (wU Γ).vm.classes[wA Γ 0]? = some k ∧ k.kind = .array comp .int) ∧ ∃ k comp, (wU Γ).vm.classes[wA Γ 3]? = some k ∧ k.kind = .array comp .boolean
theorem find_al {u v : Vm} (h : u.Alike v) {C : String} {c : ClassId} (hc : u.findClass C = some c) : v.findClass C = some c := by rw [h.findClass]; exact hc
theorem d_grid2 {idx : Nat} {Cn : String} {ty : FieldType} {cA c1 : ClassId} {a b : Int32} {a' b' cs1 sl1 : Nat} (C : CX Γ X cc nL own ret R0) (hcl : Gd (.classLink own idx Cn)) (hfc : (wU Γ).vm.findClass Cn = some cA) (hk : mzK (wU Γ).vm ty [cA, c1] [a, b]) (hdf : fits ty (defaultValue ty) = true) (ha : a.toNatClampNeg = a') (hb' : b.toNatClampNeg = b')
    (hz : GZ base N l M M1) (hc : GCells Γ base N M1 (mzC (defaultValue ty) [cA, c1] [a', b'])) (hN : mzN [a', b'] = N ∧ 0 < N) (hK1 : K9 M → K9 M1) (hR : cs + N ≤ R0.cells ∧ sl + mzS [a', b'] ≤ R0.slots) (hag : agr l0 ad0 ad) (h0 : ∀ o, o ∈ l0 → o ∈ l) {L1 : List (Option Value)} {st1 : List Value} (hL1 : L1 = evL ad L) (hs1 : st1 = .int b :: .int a :: evS ad st) (hL : svL l L) (hs : svS l st)
    (d : decode cc pc = .ok (.multianewarray idx 2, 4)) (q : Nat) (hq : pc + 4 = q) (ec : cs + N = cs1) (es : sl + mzS [a', b'] = sl1) (K : GD Γ K9 ad0 l0 X (l ++ List.range' base N) M1 cs1 sl1 L (.inr base :: st) q) : G (gc Γ K9 ad l) X M cs sl L1 st1 pc := by
  subst hq; subst ec; subst es; subst hL1; subst hs1; subst ha; subst hb'
  have kk := grid_go hz hc hK1 hag h0 hL hs hN.2 K
  obtain ⟨p, e, R, s, m, args, below, meth, c, Q⟩ := X
  obtain ⟨hx, hb, hml, hown, hts, hW, hlk, hret, rfl, hK, hSs, hG⟩ := C
  intro H locs ls a1 a2 a3 a4 a5
  obtain ⟨hN, -⟩ := hN
  subst hN
  exact W_multi2 hx hb hown (hts _ hcl) (find_al hW.alike hfc) (mzK_alike hW.alike hk) hdf hR.1 hR.2 d (kk H locs ls a1 a2 a3 a4 a5)
theorem d_grid3 {idx : Nat} {Cn : String} {ty : FieldType} {cA c1 c2 : ClassId} {a b f : Int32} {a' b' f' cs1 sl1 : Nat} (C : CX Γ X cc nL own ret R0) (hcl : Gd (.classLink own idx Cn)) (hfc : (wU Γ).vm.findClass Cn = some cA) (hk : mzK (wU Γ).vm ty [cA, c1, c2] [a, b, f]) (hdf : fits ty (defaultValue ty) = true) (ha : a.toNatClampNeg = a') (hb' : b.toNatClampNeg = b') (hf' : f.toNatClampNeg = f')
    (hz : GZ base N l M M1) (hc : GCells Γ base N M1 (mzC (defaultValue ty) [cA, c1, c2] [a', b', f'])) (hN : mzN [a', b', f'] = N ∧ 0 < N) (hK1 : K9 M → K9 M1) (hR : cs + N ≤ R0.cells ∧ sl + mzS [a', b', f'] ≤ R0.slots) (hag : agr l0 ad0 ad) (h0 : ∀ o, o ∈ l0 → o ∈ l) {L1 : List (Option Value)} {st1 : List Value} (hL1 : L1 = evL ad L) (hs1 : st1 = .int f :: .int b :: .int a :: evS ad st) (hL : svL l L) (hs : svS l st)
    (d : decode cc pc = .ok (.multianewarray idx 3, 4)) (q : Nat) (hq : pc + 4 = q) (ec : cs + N = cs1) (es : sl + mzS [a', b', f'] = sl1) (K : GD Γ K9 ad0 l0 X (l ++ List.range' base N) M1 cs1 sl1 L (.inr base :: st) q) : G (gc Γ K9 ad l) X M cs sl L1 st1 pc := by
  subst hq; subst ec; subst es; subst hL1; subst hs1; subst ha; subst hb'; subst hf'
  have kk := grid_go hz hc hK1 hag h0 hL hs hN.2 K
  obtain ⟨p, e, R, s, m, args, below, meth, c, Q⟩ := X
  obtain ⟨hx, hb, hml, hown, hts, hW, hlk, hret, rfl, hK, hSs, hG⟩ := C
  intro H locs ls a1 a2 a3 a4 a5
  obtain ⟨hN, -⟩ := hN
  subst hN
  exact W_multi3 hx hb hown (hts _ hcl) (find_al hW.alike hfc) (mzK_alike hW.alike hk) hdf hR.1 hR.2 d (kk H locs ls a1 a2 a3 a4 a5)
end Grid
/-- the memory with a grid's references -/
def gm2 (M : Mem) (base : Nat) : Mem := (M.1, M.2.1, fun o k => if o = base then (if k < 6 then some (base + 1 + k) else none) else M.2.2 o k)
def gm3 (M : Mem) (base : Nat) : Mem := (M.1, M.2.1, fun o k => if o = base then (if k < 6 then some (base + 1 + 4 * k) else none) else if base < o ∧ o < base + 25 ∧ (o - base) % 4 = 1 then (if k < 3 then some (o + 1 + k) else none) else M.2.2 o k)
theorem mzO_vp {c : ClassId} {n sz h : Nat} {f : Nat → Option Nat} (hf : ∀ j, j < n → f j = some (h + 1 + j * sz)) : mzO c n sz h n = vp_cell c (n, .inr (.inr (.inr (.inr f)))) := by
  rw [vp_cell_q]
  unfold mzO arrV
  congr 1
  apply Array.ext
  · simp
  · intro i h1 h2
    have hi : i < n := by simpa using h1
    simp [hf i hi, hi, va_rf]
theorem inner_vp {c : ClassId} {n : Nat} {f : Nat → Int32} (hf : ∀ j, f j = 0) : ({ cls := c, slots := Array.replicate n (.int 0), vm := .none } : Cell) = vp_cell c (n, .inl f) := by
  rw [vp_cell_i, arrV_new]
  congr 1
  funext j
  rw [hf j]
theorem mz26 (dv : Value) (c c1 : ClassId) (n h : Nat) : ∀ j, j < 6 → (mzC dv [c, c1] [6, n] h)[j + 1]? = some { cls := c1, slots := Array.replicate n dv, vm := .none } := by
  intro j hj
  match j, hj with
  | 0, _ => rfl
  | 1, _ => rfl
  | 2, _ => rfl
  | 3, _ => rfl
  | 4, _ => rfl
  | 5, _ => rfl
  | j + 6, h9 => exact absurd h9 (by omega)
theorem mz36 (dv : Value) (c c1 c2 : ClassId) (n h : Nat) : ∀ i, i < 6 → (mzC dv [c, c1, c2] [6, 3, n] h)[1 + 4 * i]? = some (mzO c1 3 1 (h + 1 + i * 4) 3) := by
  intro j hj
  match j, hj with
  | 0, _ => rfl
  | 1, _ => rfl
  | 2, _ => rfl
  | 3, _ => rfl
  | 4, _ => rfl
  | 5, _ => rfl
  | j + 6, h9 => exact absurd h9 (by omega)
theorem mz363 (dv : Value) (c c1 c2 : ClassId) (n h : Nat) : ∀ i, i < 6 → ∀ j, j < 3 → (mzC dv [c, c1, c2] [6, 3, n] h)[2 + 4 * i + j]? = some { cls := c2, slots := Array.replicate n dv, vm := .none } := by
  intro i hi j hj
  match i, hi, j, hj with
  | 0, _, 0, _ => rfl
  | 1, _, 0, _ => rfl
  | 2, _, 0, _ => rfl
  | 3, _, 0, _ => rfl
  | 4, _, 0, _ => rfl
  | 5, _, 0, _ => rfl
  | 0, _, 1, _ => rfl
  | 1, _, 1, _ => rfl
  | 2, _, 1, _ => rfl
  | 3, _, 1, _ => rfl
  | 4, _, 1, _ => rfl
  | 5, _, 1, _ => rfl
  | 0, _, 2, _ => rfl
  | 1, _, 2, _ => rfl
  | 2, _, 2, _ => rfl
  | 3, _, 2, _ => rfl
  | 4, _, 2, _ => rfl
  | 5, _, 2, _ => rfl
  | i + 6, h9, _, _ => exact absurd h9 (by omega)
  | _, _, j + 3, h9 => exact absurd h9 (by omega)
theorem gc2 {Γ : WC} {base kA kI : Nat} {M : Mem} (hI : kI = 0 ∨ kI = 3) (hs0 : SHF base = some (5, 1000 * kA + 6)) (hsi : ∀ j, j < 6 → SHF (base + (j + 1)) = some (kI, 3)) (hz : ∀ i, i < 7 → ∀ k, gI M (base + i) k = 0) : GCells Γ base 7 (gm2 M base) (mzC (.int 0) [wA Γ (5 + kA), wA Γ kI] [6, 3]) := by
  intro h
  refine ⟨rfl, fun ad1 had k hk => ?_⟩
  match k, hk with
  | 0, _ =>
    refine ⟨(wA Γ (5 + kA), 6, .inr (.inr (.inr (.inr (fun j => (gR (gm2 M base) base j).map ad1))))), ?_, ?_⟩
    · rw [Nat.add_zero, hs0]
      exact cE_q (by decide)
    · show some (mzO (wA Γ (5 + kA)) 6 1 h 6) = _
      rw [mzO_vp (f := fun j => (gR (gm2 M base) base j).map ad1)]
      intro j hj
      have e1 : gR (gm2 M base) base j = some (base + 1 + j) := by
        show (if base = base then (if j < 6 then some (base + 1 + j) else none) else _) = _
        rw [if_pos rfl, if_pos hj]
      show (gR (gm2 M base) base j).map ad1 = _
      rw [e1, Option.map_some, show base + 1 + j = base + (j + 1) by omega, had (j + 1) (by omega), show h + (j + 1) = h + 1 + j * 1 by omega]
  | j + 1, hk =>
    refine ⟨(wA Γ kI, 3, .inl (gI M (base + (j + 1)))), ?_, ?_⟩
    · rw [hsi j (by omega)]
      rcases hI with rfl | rfl <;> rfl
    · rw [mz26 _ _ _ _ _ j (by omega), inner_vp (f := gI M (base + (j + 1))) (hz (j + 1) hk)]
theorem gc3 {Γ : WC} {base n : Nat} {M : Mem} (hs0 : SHF base = some (5, 2006)) (hsm : ∀ i, i < 6 → SHF (base + (1 + 4 * i)) = some (5, 1003)) (hsi : ∀ i, i < 6 → ∀ j, j < 3 → SHF (base + (2 + 4 * i + j)) = some (0, n)) (hz : ∀ i, i < 25 → ∀ k, gI M (base + i) k = 0) : GCells Γ base 25 (gm3 M base) (mzC (.int 0) [wA Γ 7, wA Γ 6, wA Γ 0] [6, 3, n]) := by
  intro h
  refine ⟨rfl, fun ad1 had k hk => ?_⟩
  by_cases h0 : k = 0
  · subst h0
    refine ⟨(wA Γ 7, 6, .inr (.inr (.inr (.inr (fun j => (gR (gm3 M base) base j).map ad1))))), ?_, ?_⟩
    · rw [Nat.add_zero, hs0]
      exact cE_q (k := 2) (n := 6) (by decide)
    · show some (mzO (wA Γ 7) 6 4 h 6) = _
      rw [mzO_vp (f := fun j => (gR (gm3 M base) base j).map ad1)]
      intro j hj
      have e1 : gR (gm3 M base) base j = some (base + 1 + 4 * j) := by
        show (if base = base then (if j < 6 then some (base + 1 + 4 * j) else none) else _) = _
        rw [if_pos rfl, if_pos hj]
      show (gR (gm3 M base) base j).map ad1 = _
      rw [e1, Option.map_some, show base + 1 + 4 * j = base + (1 + 4 * j) by omega, had (1 + 4 * j) (by omega), show h + (1 + 4 * j) = h + 1 + j * 4 by omega]
  · by_cases h1 : k % 4 = 1
    · obtain ⟨i, rfl⟩ : ∃ i, k = 1 + 4 * i := ⟨k / 4, by omega⟩
      refine ⟨(wA Γ 6, 3, .inr (.inr (.inr (.inr (fun j => (gR (gm3 M base) (base + (1 + 4 * i)) j).map ad1))))), ?_, ?_⟩
      · rw [hsm i (by omega)]
        exact cE_q (k := 1) (n := 3) (by decide)
      · rw [mz36 _ _ _ _ _ _ i (by omega), mzO_vp (f := fun j => (gR (gm3 M base) (base + (1 + 4 * i)) j).map ad1)]
        intro j hj
        have e1 : gR (gm3 M base) (base + (1 + 4 * i)) j = some (base + (1 + 4 * i) + 1 + j) := by
          show (if base + (1 + 4 * i) = base then _ else if base < base + (1 + 4 * i) ∧ base + (1 + 4 * i) < base + 25 ∧ (base + (1 + 4 * i) - base) % 4 = 1 then (if j < 3 then some (base + (1 + 4 * i) + 1 + j) else none) else _) = _
          rw [if_neg (by omega), if_pos ⟨by omega, by omega, by omega⟩, if_pos hj]
        show (gR (gm3 M base) (base + (1 + 4 * i)) j).map ad1 = _
        rw [e1, Option.map_some, show base + (1 + 4 * i) + 1 + j = base + (2 + 4 * i + j) by omega, had (2 + 4 * i + j) (by omega), show h + (2 + 4 * i + j) = h + 1 + i * 4 + 1 + j * 1 by omega]
    · obtain ⟨i, j, hj, rfl⟩ : ∃ i j, j < 3 ∧ k = 2 + 4 * i + j := ⟨(k - 2) / 4, (k - 2) % 4, by omega, by omega⟩
      refine ⟨(wA Γ 0, n, .inl (gI M (base + (2 + 4 * i + j)))), ?_, ?_⟩
      · rw [hsi i (by omega) j hj]
        rfl
      · rw [mz363 _ _ _ _ _ _ i (by omega) j hj, inner_vp (f := gI M (base + (2 + 4 * i + j))) (hz (2 + 4 * i + j) hk)]
