/-! the memory of the walk: by object and place; shapes of objects; the world that they make -/
abbrev Mem : Type := (Nat → Nat → Int32) × (Nat → Nat → Int64) × (Nat → Nat → Option Nat)
def gI (M : Mem) (o k : Nat) : Int32 := M.1 o k
def gL (M : Mem) (o k : Nat) : Int64 := M.2.1 o k
def gR (M : Mem) (o k : Nat) : Option Nat := M.2.2 o k
def sI (M : Mem) (o k : Nat) (v : Int32) : Mem := (fun a b => if a = o ∧ b = k then v else M.1 a b, M.2.1, M.2.2)
def sL (M : Mem) (o k : Nat) (v : Int64) : Mem := (M.1, fun a b => if a = o ∧ b = k then v else M.2.1 a b, M.2.2)
def sR (M : Mem) (o k : Nat) (v : Option Nat) : Mem := (M.1, M.2.1, fun a b => if a = o ∧ b = k then v else M.2.2 a b)
/-- the object o is new: all of it is zero -/
def sZ (M : Mem) (o : Nat) : Mem := (fun a b => if a = o then 0 else M.1 a b, fun a b => if a = o then 0 else M.2.1 a b, fun a b => if a = o then none else M.2.2 a b)
theorem gI_sI (M : Mem) (o k : Nat) (v : Int32) (a b : Nat) : gI (sI M o k v) a b = if a = o ∧ b = k then v else gI M a b := rfl
theorem gL_sL (M : Mem) (o k : Nat) (v : Int64) (a b : Nat) : gL (sL M o k v) a b = if a = o ∧ b = k then v else gL M a b := rfl
theorem gR_sR (M : Mem) (o k : Nat) (v : Option Nat) (a b : Nat) : gR (sR M o k v) a b = if a = o ∧ b = k then v else gR M a b := rfl
theorem gI_sL (M : Mem) (o k : Nat) (v : Int64) (a b : Nat) : gI (sL M o k v) a b = gI M a b := rfl
theorem gI_sR (M : Mem) (o k : Nat) (v : Option Nat) (a b : Nat) : gI (sR M o k v) a b = gI M a b := rfl
theorem gL_sI (M : Mem) (o k : Nat) (v : Int32) (a b : Nat) : gL (sI M o k v) a b = gL M a b := rfl
theorem gL_sR (M : Mem) (o k : Nat) (v : Option Nat) (a b : Nat) : gL (sR M o k v) a b = gL M a b := rfl
theorem gR_sI (M : Mem) (o k : Nat) (v : Int32) (a b : Nat) : gR (sI M o k v) a b = gR M a b := rfl
theorem gR_sL (M : Mem) (o k : Nat) (v : Int64) (a b : Nat) : gR (sL M o k v) a b = gR M a b := rfl
abbrev SE : Type := Nat × Nat
/-- how many fields a class has; kinds of fields: 0 int and its like, 1 long, 2 a reference -/
def nFd (c : Nat) : Nat := match vwCl[c]? with
  | some q => q.2.2
  | none => 0
def kTy (t : FieldType) : Nat := match t with
  | .long => 1
  | .array _ => 2
  | .object _ => 2
  | _ => 0
def kFd (c j : Nat) : Nat := match vwCl[c]? with
  | some q => match parseFieldDescriptor (q.2.1 j).2.2.1 with
    | some t => kTy t
    | none => 0
  | none => 0
def fVal (ad : Nat → Nat) (M : Mem) (o j k : Nat) : Value := match k with
  | 0 => .int (gI M o j)
  | 1 => .long (gL M o j)
  | _ => va_rf ((gR M o j).map ad)
def fsO (ad : Nat → Nat) (M : Mem) (o c : Nat) : List Value := (List.range (nFd c)).map (fun j => fVal ad M o j (kFd c j))
/-- a row of bytes whose length the memory keeps (in its long at 0) -/
def vlen (M : Mem) (o : Nat) : Nat := (gL M o 0).toInt.toNat
/-- what an object is in the heap: 0 int[], 1 long[], 2 byte[], 3 boolean[], 4 a byte[] of its own length, 5 rows of references (their class in the thousands: Settings, int[], int[][], boolean[]), c + 6 an object of the class c -/
def cE (dA : Nat → ClassId) (ad : Nat → Nat) (M : Mem) (o : Nat) (e : SE) : va_E := match e.1 with
  | 0 => .inl (dA 0, e.2, .inl (gI M o))
  | 1 => .inl (dA 1, e.2, .inr (.inl (gL M o)))
  | 2 => .inl (dA 2, e.2, .inl (gI M o))
  | 3 => .inl (dA 3, e.2, .inl (gI M o))
  | 4 => .inl (dA 2, vlen M o, .inl (gI M o))
  | 5 => .inl (dA (5 + e.2 / 1000), e.2 % 1000, .inr (.inr (.inr (.inr (fun j => (gR M o j).map ad)))))
  | c + 6 => .inr (c, fsO ad M o c)
/-- a context: the first state, the places of classes and fields, the classes of arrays, what memories keep, addresses, shapes, the launch, addresses of texts -/
abbrev WC : Type := State × va_G × (Nat → ClassId) × (Mem → Prop) × (Nat → Nat) × (List Nat × (Nat → Option SE)) × Launch × (Nat → Nat) × (Nat → Nat)
def wU (Γ : WC) : State := Γ.1
def wD (Γ : WC) : va_G := Γ.2.1
def wA (Γ : WC) : Nat → ClassId := Γ.2.2.1
def wK (Γ : WC) : Mem → Prop := Γ.2.2.2.1
def wad (Γ : WC) : Nat → Nat := Γ.2.2.2.2.1
def wnl (Γ : WC) : List Nat := Γ.2.2.2.2.2.1.1
def wsh (Γ : WC) : Nat → Option SE := Γ.2.2.2.2.2.1.2
def wl (Γ : WC) : Launch := Γ.2.2.2.2.2.2.1
def wst (Γ : WC) : Nat → Nat := Γ.2.2.2.2.2.2.2.1
def wsv (Γ : WC) : Nat → Nat := Γ.2.2.2.2.2.2.2.2
def fAg (Γ : WC) : Nat → Prop := fun q => (wU Γ).heap.size ≤ q
def wCell (Γ : WC) (M : Mem) (o : Nat) : Nat × va_E := (wad Γ o, cE (wA Γ) (wad Γ) M o ((wsh Γ o).getD (0, 0)))
def wO (Γ : WC) (M : Mem) : va_W := (wnl Γ).map (wCell Γ M)
/-- the object o is there, and of this shape; its place -/
def On (Γ : WC) (o : Nat) (e : SE) : Prop := o ∈ wnl Γ ∧ (wnl Γ).Nodup ∧ wsh Γ o = some e
def px (Γ : WC) (o : Nat) : Nat := (wnl Γ).idxOf o
def tysA (dA : Nat → ClassId) : List (ClassId × FieldType) := [(dA 0, .int), (dA 1, .long), (dA 2, .byte), (dA 3, .boolean), (dA 5, .object "DecisionChain$Settings"), (dA 6, .array .int), (dA 7, .array (.array .int)), (dA 8, .array .boolean)]
theorem wO_at {Γ : WC} {M : Mem} {o : Nat} {e : SE} (h : On Γ o e) : (wO Γ M)[px Γ o]? = some (wad Γ o, cE (wA Γ) (wad Γ) M o e) := by
  have hl := List.idxOf_lt_length_of_mem h.1
  have hg : (wnl Γ)[px Γ o]? = some o := by
    show (wnl Γ)[(wnl Γ).idxOf o]? = some o
    rw [List.getElem?_eq_getElem hl]
    exact congrArg some (List.getElem_idxOf hl)
  simp only [wO, List.getElem?_map, hg, Option.map_some, wCell, h.2.2, Option.getD_some]
theorem px_of {Γ : WC} {o i : Nat} (h : (wnl Γ).Nodup) (hi : (wnl Γ)[i]? = some o) : px Γ o = i := by
  obtain ⟨h1, h2⟩ := List.getElem?_eq_some_iff.mp hi
  have := List.Nodup.idxOf_getElem h i h1
  rw [h2] at this
  exact this
theorem wO_set {Γ : WC} {M M' : Mem} {o : Nat} {e : SE} (h : On Γ o e) (hM : ∀ a, a ≠ o → ∀ s : SE, cE (wA Γ) (wad Γ) M' a s = cE (wA Γ) (wad Γ) M a s) : (wO Γ M).set (px Γ o) (wad Γ o, cE (wA Γ) (wad Γ) M' o e) = wO Γ M' := by
  apply List.ext_getElem?
  intro i
  by_cases hi : i = px Γ o
  · subst hi
    have hl : px Γ o < (wO Γ M).length := (List.getElem?_eq_some_iff.mp (wO_at (M := M) h)).1
    rw [List.getElem?_set_self hl, wO_at h]
  · rw [List.getElem?_set_ne (Ne.symm hi)]
    simp only [wO, List.getElem?_map]
    cases hr : (wnl Γ)[i]? with
    | none => rfl
    | some j =>
      have hj : j ≠ o := fun z => hi (by rw [z] at hr; exact (px_of h.2.1 hr).symm)
      simp only [Option.map_some, wCell, hM j hj]
theorem cE_sI {dA : Nat → ClassId} {ad : Nat → Nat} {M : Mem} {o k : Nat} {v : Int32} {a : Nat} (h : a ≠ o) (s : SE) : cE dA ad (sI M o k v) a s = cE dA ad M a s := by
  have h1 : ∀ b, gI (sI M o k v) a b = gI M a b := fun b => by rw [gI_sI, if_neg (fun z => h z.1)]
  have h1f : gI (sI M o k v) a = gI M a := funext h1
  have h2f : gL (sI M o k v) a = gL M a := rfl
  have h3f : gR (sI M o k v) a = gR M a := rfl
  have h4 : ∀ j q, fVal ad (sI M o k v) a j q = fVal ad M a j q := fun j q => by simp only [fVal, h1f, h2f, h3f]
  simp only [cE, vlen, fsO, h1f, h2f, h3f, h4]
theorem cE_sL {dA : Nat → ClassId} {ad : Nat → Nat} {M : Mem} {o k : Nat} {v : Int64} {a : Nat} (h : a ≠ o) (s : SE) : cE dA ad (sL M o k v) a s = cE dA ad M a s := by
  have h1 : ∀ b, gL (sL M o k v) a b = gL M a b := fun b => by rw [gL_sL, if_neg (fun z => h z.1)]
  have h1f : gL (sL M o k v) a = gL M a := funext h1
  have h2f : gI (sL M o k v) a = gI M a := rfl
  have h3f : gR (sL M o k v) a = gR M a := rfl
  have h4 : ∀ j q, fVal ad (sL M o k v) a j q = fVal ad M a j q := fun j q => by simp only [fVal, h1f, h2f, h3f]
  simp only [cE, vlen, fsO, h1f, h2f, h3f, h4]
theorem cE_sR {dA : Nat → ClassId} {ad : Nat → Nat} {M : Mem} {o k : Nat} {v : Option Nat} {a : Nat} (h : a ≠ o) (s : SE) : cE dA ad (sR M o k v) a s = cE dA ad M a s := by
  have h1 : ∀ b, gR (sR M o k v) a b = gR M a b := fun b => by rw [gR_sR, if_neg (fun z => h z.1)]
  have h1f : gR (sR M o k v) a = gR M a := funext h1
  have h2f : gI (sR M o k v) a = gI M a := rfl
  have h3f : gL (sR M o k v) a = gL M a := rfl
  have h4 : ∀ j q, fVal ad (sR M o k v) a j q = fVal ad M a j q := fun j q => by simp only [fVal, h1f, h2f, h3f]
  simp only [cE, vlen, fsO, h1f, h2f, h3f, h4]
theorem wO_addr {Γ : WC} {M M' : Mem} {k : Nat} {q : Nat × va_E} (h : (wO Γ M)[k]? = some q) : ∃ e', (wO Γ M')[k]? = some (q.1, e') := by
  simp only [wO, List.getElem?_map, Option.map_eq_some_iff] at h ⊢
  obtain ⟨j, hj, rfl⟩ := h
  exact ⟨_, j, hj, rfl⟩
theorem wO_D {Γ : WC} {A : Nat → Prop} {M : Mem} (M' : Mem) (h : va_D A (wO Γ M)) : va_D A (wO Γ M') := by
  refine ⟨fun i j p q hp hq e => ?_, fun k q hk => ?_⟩
  · obtain ⟨e1, h1⟩ := wO_addr (M' := M) hp
    obtain ⟨e2, h2⟩ := wO_addr (M' := M) hq
    exact h.1 i j _ _ h1 h2 e
  · obtain ⟨e1, h1⟩ := wO_addr (M' := M) hk
    exact h.2 k (q.1, e1) h1
/-- words that hold in all later states -/
def okW (w : Cond) : Bool := goodWord w || (match w with
  | .methodLinkNest .. => true
  | .fieldLinkNest .. => true
  | .castable .. => true
  | .declares _ => true
  | _ => false)
/-- four private methods of the class above: what they select follows from the table -/
def exS : List Cond := [.selects RJ4 yJ5_newCapacity_0f7a4 yJ5_newCapacity_0f7a4, .selects RJ4 yJ5_ensureCapacityInternal_d00df yJ5_ensureCapacityInternal_d00df, .selects RJ4 yJ5_putStringAt_47b60 yJ5_putStringAt_47b60, .selects RJ4 yJ5_inflateIfNeededFor_a7421 yJ5_inflateIfNeededFor_a7421]
def Gd (w : Cond) : Prop := w ∈ exS ++ lw_tbl ∧ okW w = true
theorem gdm {w : Cond} (h : w ∈ lw_tbl ∧ okW w = true) : Gd w := ⟨List.mem_append_right _ h.1, h.2⟩
theorem gd {w : Cond} (i : Nat) (h : lw_tbl[i]? = some w) (g : okW w = true) : Gd w := gdm ⟨List.mem_of_getElem? h, g⟩
theorem Gd.at {w : Cond} (h : Gd w) {a0 a : Array Value} {U0 U : State} (hw : ∀ w ∈ exS ++ lw_tbl, w.before a0 U0 = true) (hW : U0.WarmedH U.vm) : w.before a U = true := by
  obtain ⟨h1, h2⟩ := h
  have h0 := hw w h1
  simp only [okW, Bool.or_eq_true] at h2
  rcases h2 with h2 | h2
  · exact word_at hW (good_of_word h2) h0
  · cases w <;> first | (exact absurd h2 (by decide)) | (exact absurd h2 Bool.false_ne_true) | (refine va_Nw.use (by rfl) ?_; first | exact va_Nw.warmM hW (va_Nw.of (by rfl) h0) | exact va_Nw.warmF hW (va_Nw.of (by rfl) h0) | exact va_Nw.warmC hW (va_Nw.of (by rfl) h0) | exact va_Nw.warmD hW (va_Nw.of (by rfl) h0))
def WP (Γ : WC) (M : Mem) (U : State) : Prop := wK Γ M ∧ (wU Γ).WarmedH U.vm ∧ va_S (fAg Γ) (wU Γ).heap U.heap [] ∧ va_P (wD Γ) vwCl (wO Γ M) U.heap ∧ va_D (fAg Γ) (wO Γ M)
/-- .. but the tables: where a method throws -/
def WPX (Γ : WC) (M : Mem) (U : State) : Prop := wK Γ M ∧ va_S (fAg Γ) (wU Γ).heap U.heap [] ∧ va_P (wD Γ) vwCl (wO Γ M) U.heap ∧ va_D (fAg Γ) (wO Γ M)
/-- what the memories of a context keep -/
def KW (Γ : WC) : Prop := ∀ M M', (∀ a b, gR M' a b = gR M a b) → wK Γ M → wK Γ M'
/-- what holds of a context -/
def HG (Γ : WC) : Prop := (∀ w, Gd w → ∀ (a : Array Value) (U : State), (wU Γ).WarmedH U.vm → w.before a U = true) ∧ va_K (wD Γ) vwCl (tysA (wA Γ)) (wU Γ) ∧ (wl Γ).stackTraces = false ∧
  vx_Zq Bundle.tN "UNASSIGNED_STACK" Bundle.steD (fAg Γ) (wU Γ) (wU Γ).heap ∧ vx_Zq Bundle.tN "SUPPRESSED_SENTINEL" Bundle.listD (fAg Γ) (wU Γ) (wU Γ).heap ∧ KW Γ
theorem HG.kw {Γ : WC} (h : HG Γ) : KW Γ := h.2.2.2.2.2
abbrev MX : Type := Program × Env × Room × State × MethodId × Array Value × List Frame × Method × Code × (State → Prop)
def lO (k : Nat) : List (Option Value) → List (Nat × Value)
  | [] => []
  | none :: t => lO (k + 1) t
  | some v :: t => (k, v) :: lO (k + 1) t
def lget : List (Option Value) → Nat → Option Value
  | [], _ => none
  | a :: _, 0 => a
  | _ :: t, n + 1 => lget t n
def lclr (o : Option Value) : Option Value := match o with
  | some (.long _) => none
  | some (.double _) => none
  | o => o
def lset1 : List (Option Value) → Nat → Value → List (Option Value)
  | [], 0, v => [some v]
  | [], n + 1, v => none :: lset1 [] n v
  | _ :: t, 0, v => some v :: t
  | a :: t, 1, v => lclr a :: lset1 t 0 v
  | a :: t, n + 2, v => a :: lset1 t (n + 1) v
def lnon : List (Option Value) → Nat → List (Option Value)
  | [], _ => []
  | _ :: t, 0 => none :: t
  | a :: t, n + 1 => a :: lnon t n
def lset2 (L : List (Option Value)) (i : Nat) (v : Value) : List (Option Value) := lset1 (lnon L (i + 1)) i v
theorem lO_mem : ∀ {L : List (Option Value)} {i : Nat} {v : Value} (k : Nat), lget L i = some v → (k + i, v) ∈ lO k L
  | [], _, _, _, h => nomatch h
  | none :: t, 0, v, k, h => nomatch h
  | some w :: t, 0, v, k, h => by
    cases h
    exact List.mem_cons_self
  | none :: t, n + 1, v, k, h => by
    have := lO_mem (L := t) (k + 1) h
    rw [show k + 1 + n = k + (n + 1) by omega] at this
    exact this
  | some w :: t, n + 1, v, k, h => by
    have := lO_mem (L := t) (k + 1) h
    rw [show k + 1 + n = k + (n + 1) by omega] at this
    exact List.mem_cons_of_mem _ this
theorem lO_of : ∀ {L : List (Option Value)} {k : Nat} {q : Nat × Value}, q ∈ lO k L → ∃ i, q.1 = k + i ∧ lget L i = some q.2
  | [], _, _, h => nomatch h
  | none :: t, k, q, h => by
    obtain ⟨i, h1, h2⟩ := lO_of (L := t) (k := k + 1) h
    exact ⟨i + 1, by omega, h2⟩
  | some w :: t, k, q, h => by
    rcases List.mem_cons.mp h with h | h
    · subst h
      exact ⟨0, rfl, rfl⟩
    · obtain ⟨i, h1, h2⟩ := lO_of (L := t) (k := k + 1) h
      exact ⟨i + 1, by omega, h2⟩
theorem lget_set1 : ∀ {L : List (Option Value)} {i : Nat} {v : Value} {j : Nat} {w : Value}, lget (lset1 L i v) j = some w → (j = i ∧ w = v) ∨ (j ≠ i ∧ lget L j = some w ∧ ¬ (j + 1 = i ∧ w.category = 2))
  | [], 0, v, 0, w, h => by
    cases h
    exact Or.inl ⟨rfl, rfl⟩
  | [], 0, v, j + 1, w, h => by
    simp [lset1, lget] at h
  | [], n + 1, v, 0, w, h => by
    simp [lset1, lget] at h
  | [], n + 1, v, j + 1, w, h => by
    rcases lget_set1 (L := []) (i := n) (v := v) (j := j) (w := w) h with ⟨a, b⟩ | ⟨a, b, c⟩
    · exact Or.inl ⟨by omega, b⟩
    · simp [lget] at b
  | a :: t, 0, v, 0, w, h => by
    cases h
    exact Or.inl ⟨rfl, rfl⟩
  | a :: t, 0, v, j + 1, w, h => Or.inr ⟨by omega, h, by omega⟩
  | a :: t, 1, v, 0, w, h => by
    refine Or.inr ⟨by omega, ?_, ?_⟩
    · simp only [lset1, lget, lclr] at h ⊢
      split at h <;> first | exact h | cases h
    · simp only [lset1, lget, lclr] at h
      rintro ⟨-, hw⟩
      split at h
      · cases h
      · cases h
      · rename_i h1 h2
        cases w <;> first | exact absurd h (h1 _) | exact absurd h (h2 _) | (simp [Value.category] at hw)
  | a :: t, 1, v, j + 1, w, h => by
    rcases lget_set1 (L := t) (i := 0) (v := v) (j := j) (w := w) h with ⟨x, b⟩ | ⟨x, b, c⟩
    · exact Or.inl ⟨by omega, b⟩
    · exact Or.inr ⟨by omega, b, by omega⟩
  | a :: t, n + 2, v, 0, w, h => Or.inr ⟨by omega, h, by omega⟩
  | a :: t, n + 2, v, j + 1, w, h => by
    rcases lget_set1 (L := t) (i := n + 1) (v := v) (j := j) (w := w) h with ⟨x, b⟩ | ⟨x, b, c⟩
    · exact Or.inl ⟨by omega, b⟩
    · exact Or.inr ⟨by omega, b, fun z => c ⟨by omega, z.2⟩⟩
theorem lget_non : ∀ {L : List (Option Value)} {i j : Nat} {w : Value}, lget (lnon L i) j = some w → j ≠ i ∧ lget L j = some w
  | [], _, _, _, h => by simp [lnon, lget] at h
  | a :: t, 0, 0, w, h => by simp [lnon, lget] at h
  | a :: t, 0, j + 1, w, h => ⟨by omega, h⟩
  | a :: t, n + 1, 0, w, h => ⟨by omega, h⟩
  | a :: t, n + 1, j + 1, w, h => by
    obtain ⟨x, y⟩ := lget_non (L := t) (i := n) (j := j) (w := w) h
    exact ⟨by omega, y⟩
theorem lO_at {ls : Array Slot} {n : Nat} {L : List (Option Value)} (h : lv_has ls n (lO 0 L)) {i : Nat} {v : Value} (hi : lget L i = some v) : ls[i]? = some (.val v) := by
  have := h.2.2 (0 + i, v) (lO_mem 0 hi)
  rw [Nat.zero_add] at this
  exact this
theorem lO_set1 {ls : Array Slot} {n : Nat} {L : List (Option Value)} {i : Nat} {v : Value} (h : lv_has ls n ((i, v) :: (lO 0 L).filter (fun q => !(q.1 == i) && !(q.1 + 1 == i && q.2.category == 2)))) : lv_has ls n (lO 0 (lset1 L i v)) := by
  refine ⟨h.1, h.2.1, fun q hq => ?_⟩
  obtain ⟨j, h1, h2⟩ := lO_of hq
  obtain ⟨q1, q2⟩ := q
  dsimp only at h1 h2 ⊢
  rw [Nat.zero_add] at h1
  subst h1
  rcases lget_set1 h2 with ⟨rfl, rfl⟩ | ⟨a, b, c⟩
  · exact h.2.2 _ List.mem_cons_self
  · refine h.2.2 (q1, q2) (List.mem_cons_of_mem _ (List.mem_filter.mpr ⟨?_, ?_⟩))
    · have := lO_mem 0 b
      rw [Nat.zero_add] at this
      exact this
    · have e1 : (q1 == i) = false := beq_eq_false_iff_ne.mpr a
      have e2 : (q1 + 1 == i && q2.category == 2) = false := by
        by_cases z : q1 + 1 = i
        · have : ¬ q2.category = 2 := fun y => c ⟨z, y⟩
          rw [beq_eq_false_iff_ne.mpr this, Bool.and_false]
        · rw [beq_eq_false_iff_ne.mpr z, Bool.false_and]
      simp only [e1, e2, Bool.not_false, Bool.and_self]
theorem lO_set2 {ls : Array Slot} {n : Nat} {L : List (Option Value)} {i : Nat} {v : Value} (h : lv_has ls n ((i, v) :: (lO 0 L).filter (fun q => !(q.1 == i) && (!(q.1 == i + 1) && !(q.1 + 1 == i && q.2.category == 2))))) : lv_has ls n (lO 0 (lset2 L i v)) := by
  refine ⟨h.1, h.2.1, fun q hq => ?_⟩
  obtain ⟨j, h1, h2⟩ := lO_of hq
  obtain ⟨q1, q2⟩ := q
  dsimp only at h1 h2 ⊢
  rw [Nat.zero_add] at h1
  subst h1
  rcases lget_set1 h2 with ⟨rfl, rfl⟩ | ⟨a, b, c⟩
  · exact h.2.2 _ List.mem_cons_self
  · obtain ⟨d, b⟩ := lget_non b
    refine h.2.2 (q1, q2) (List.mem_cons_of_mem _ (List.mem_filter.mpr ⟨?_, ?_⟩))
    · have := lO_mem 0 b
      rw [Nat.zero_add] at this
      exact this
    · have e1 : (q1 == i) = false := beq_eq_false_iff_ne.mpr a
      have e3 : (q1 == i + 1) = false := beq_eq_false_iff_ne.mpr d
      have e2 : (q1 + 1 == i && q2.category == 2) = false := by
        by_cases z : q1 + 1 = i
        · have : ¬ q2.category = 2 := fun y => c ⟨z, y⟩
          rw [beq_eq_false_iff_ne.mpr this, Bool.and_false]
        · rw [beq_eq_false_iff_ne.mpr z, Bool.false_and]
      simp only [e1, e2, e3, Bool.not_false, Bool.and_self]
/-- fewer locals known -/
def LSub : List (Option Value) → List (Option Value) → Prop
  | [], _ => True
  | none :: t, [] => LSub t []
  | none :: t, _ :: u => LSub t u
  | some _ :: _, [] => False
  | some v :: t, b :: u => b = some v ∧ LSub t u
theorem LSub.get : ∀ {L K : List (Option Value)}, LSub L K → ∀ {i : Nat} {v : Value}, lget L i = some v → lget K i = some v
  | [], _, _, _, _, h => nomatch h
  | none :: t, [], hs, 0, v, h => nomatch h
  | none :: t, [], hs, n + 1, v, h => by
    have := LSub.get (L := t) (K := []) hs (i := n) (v := v) h
    exact nomatch this
  | none :: t, b :: u, hs, 0, v, h => nomatch h
  | none :: t, b :: u, hs, n + 1, v, h => LSub.get (L := t) (K := u) hs (i := n) (v := v) h
  | some w :: t, [], hs, _, _, _ => nomatch hs
  | some w :: t, b :: u, hs, 0, v, h => by
    cases h
    exact hs.1
  | some w :: t, b :: u, hs, n + 1, v, h => LSub.get (L := t) (K := u) hs.2 (i := n) (v := v) h
theorem lO_sub {ls : Array Slot} {n : Nat} {L K : List (Option Value)} (hs : LSub L K) (h : lv_has ls n (lO 0 K)) : lv_has ls n (lO 0 L) := by
  refine ⟨h.1, h.2.1, fun q hq => ?_⟩
  obtain ⟨j, h1, h2⟩ := lO_of hq
  have := lO_at h (hs.get h2)
  rw [h1, Nat.zero_add]
  exact this
def lE : List Value → List (Option Value)
  | [] => []
  | v :: t => if v.category = 2 then some v :: none :: lE t else some v :: lE t
theorem lE_args : ∀ (vs : List Value) (k : Nat), lO k (lE vs) = lv_args k vs
  | [], _ => rfl
  | v :: t, k => by
    by_cases h : v.category = 2
    · rw [lE, if_pos h, lv_args, if_pos h]
      simp only [lO]
      rw [lE_args t (k + 2)]
    · rw [lE, if_neg h, lv_args, if_neg h]
      simp only [lO]
      rw [lE_args t (k + 1)]
/-- the goal of a walk: from this memory, these locals, this stack and place the method comes to what Q says -/
def G (Γ : WC) (X : MX) (M : Mem) (cs sl : Nat) (L : List (Option Value)) (st : List Value) (pc : Nat) : Prop := match X with
  | (p, e, R, s, m, args, below, meth, c, Q) => ∀ (H : Heap) (locs : List Loc) (ls : Array Slot), wK Γ M → va_P (wD Γ) vwCl (wO Γ M) H → va_D (fAg Γ) (wO Γ M) → va_S (fAg Γ) (wU Γ).heap H locs → lv_has ls c.maxLocals (lO 0 L) → W p (wl Γ) e R s m args below meth c H locs cs sl Q (F0 m pc ls st)
/-- what a walk stands on -/
def CX (Γ : WC) (X : MX) (cc : ByteArray) (nL : Nat) (own : String) (ret : Option FieldType) (R0 : Room) : Prop := match X with
  | (p, _, R, s, m, args, _, meth, c, _) => p.tables.exec = Jvm.exec ∧ c.code = cc ∧ c.maxLocals = nL ∧ s.vm.findClass own = some m.cls ∧ (∀ w, Gd w → w.before args s = true) ∧ (wU Γ).WarmedH s.vm ∧ meth.locks = false ∧ meth.sig.returnType = ret ∧ R = R0 ∧ va_K (wD Γ) vwCl (tysA (wA Γ)) s ∧ va_S (fAg Γ) (wU Γ).heap s.heap [] ∧ HG Γ
/-- contract of a method that returns: with these arguments on this memory it answers v and leaves M' -/
def Ct (Γ : WC) (y : MethodName) (cc : ByteArray) (nL : Nat) (ret : Option FieldType) (rm : Room) (As : List Value) (M : Mem) (v : Option Value) (M' : Mem) : Prop :=
  Met (wl Γ) y [Cond.code y cc nL ret] rm (va_Pc As (WP Γ M)) (fun _ _ o t => o = .returned v ∧ WP Γ M' t) rm.cells rm.slots (fAg Γ)
def EndN (Γ : WC) (X : MX) (v : Option Value) (M' : Mem) (mc ms : Nat) : Prop := match X with
  | (_, _, _, s, _, args, below, _, _, Q) => Q = MQ below (fun _ _ o t => o = .returned v ∧ WP Γ M' t) args s mc ms (fAg Γ)
def xN (n : Nat) : String := match n with
  | 0 => "java/lang/IllegalStateException"
  | 1 => "java/lang/IndexOutOfBoundsException"
  | _ => "java/lang/IllegalArgumentException"
def QcT {α : Type} (Γ : WC) (tv : α → Option Value) (r : Except Nat α × Mem) : Array Value → State → Outcome → State → Prop := fun _ _ o t => ∃ x, r.1 = .ok x ∧ o = .returned (tv x) ∧ WP Γ r.2 t
def XcT {α : Type} (Γ : WC) (r : Except Nat α × Mem) : String → State → State → Prop := fun E _ t => ∃ n, r.1 = .error n ∧ E = xN n ∧ WPX Γ r.2 t
/-- contract of a method that returns or throws -/
def CtT {α : Type} (Γ : WC) (y : MethodName) (cc : ByteArray) (nL : Nat) (ret : Option FieldType) (rm : Room) (As : List Value) (M : Mem) (tv : α → Option Value) (r : Except Nat α × Mem) : Prop :=
  vx_Met (wl Γ) y [Cond.code y cc nL ret] rm (va_Pc As (WP Γ M)) (QcT Γ tv r) (XcT Γ r) rm.cells rm.slots (fAg Γ)
def EndT {α : Type} (Γ : WC) (X : MX) (tv : α → Option Value) (r : Except Nat α × Mem) (mc ms : Nat) : Prop := match X with
  | (_, _, _, s, _, args, below, _, c, Q) => Q = vx_MQ below (QcT Γ tv r) (XcT Γ r) args s mc ms (fAg Γ) ∧ ∀ x ∈ c.exceptionTable.toList, False
def rmL (n mc ms : Nat) : Room := { frames := n + 1, cells := mc, slots := ms, locals := 44 * (n + 1) }
theorem WP.blind {Γ : WC} {M : Mem} {As : List Value} : FrameBlind (va_Pc As (WP Γ M)) := fun _ _ _ _ h => h
theorem G.weak {Γ : WC} {X : MX} {M : Mem} {cs sl : Nat} {L K : List (Option Value)} {st : List Value} {pc : Nat} (hs : LSub L K) (k : G Γ X M cs sl L st pc) : G Γ X M cs sl K st pc := by
  obtain ⟨p, e, R, s, m, args, below, meth, c, Q⟩ := X
  intro H locs ls a1 a2 a3 a4 a5
  exact k H locs ls a1 a2 a3 a4 (lO_sub hs a5)
theorem mkCX {Γ : WC} (hG : HG Γ) {U : State} (h : (wU Γ).WarmedH U.vm) : va_K (wD Γ) vwCl (tysA (wA Γ)) U := va_K.moved h.alike hG.2.1
theorem mkN {Γ : WC} {y : MethodName} {own : String} {cc : ByteArray} {nL : Nat} {ret : Option FieldType} {rm : Room} {As : List Value} {M : Mem} {v : Option Value} {M' : Mem} (hG : HG Γ) (ho : y.cls = own) (hn : plainName y.cls = true) (hl : (lg_sl As).length ≤ nL)
    (body : ∀ X, CX Γ X cc nL own ret rm → EndN Γ X v M' rm.cells rm.slots → G Γ X M 0 0 (lE As) [] 0) : Ct Γ y cc nL ret rm As M v M' := by
  refine Met.ofW (cc := cc) (maxL := nL) (ret := ret) hn rfl ?_
  intro p e s m args below meth c s₁ B hml hv
  obtain ⟨rfl, hK, hW, hS, hP, hD⟩ := hv
  subst ho
  have hown : s.vm.findClass y.cls = some m.cls := findClass_of_methodNamed B.named
  have hb := body (p, e, rm, s, m, As.toArray, below, meth, c, MQ below (fun _ _ o t => o = .returned v ∧ WP Γ M' t) As.toArray s rm.cells rm.slots (fAg Γ))
    ⟨B.exec, B.bytes, hml, hown, fun w hw => hG.1 w hw _ _ hW, hW, B.notSynchronized, B.returns, rfl, mkCX hG hW, hS, hG⟩ rfl
  have hle := lv_entry As hl
  rw [lg_entry_eq]
  have h2 := hb s.heap [] _ hK hP hD hS (by rw [hml, lE_args]; exact hle)
  exact h2
theorem mkT {α : Type} {Γ : WC} {y : MethodName} {own : String} {cc : ByteArray} {nL : Nat} {ret : Option FieldType} {rm : Room} {As : List Value} {M : Mem} {tv : α → Option Value} {r : Except Nat α × Mem} (hG : HG Γ) (ho : y.cls = own) (hn : plainName y.cls = true) (hl : (lg_sl As).length ≤ nL)
    (body : ∀ X, CX Γ X cc nL own ret rm → EndT Γ X tv r rm.cells rm.slots → G Γ X M 0 0 (lE As) [] 0) : CtT Γ y cc nL ret rm As M tv r := by
  refine vx_ofW (cc := cc) (maxL := nL) (ret := ret) hn rfl ?_
  intro p e s m args below meth c s₁ B hml hno hv
  obtain ⟨rfl, hK, hW, hS, hP, hD⟩ := hv
  subst ho
  have hown : s.vm.findClass y.cls = some m.cls := findClass_of_methodNamed B.named
  have hb := body (p, e, rm, s, m, As.toArray, below, meth, c, vx_MQ below (QcT Γ tv r) (XcT Γ r) As.toArray s rm.cells rm.slots (fAg Γ))
    ⟨B.exec, B.bytes, hml, hown, fun w hw => hG.1 w hw _ _ hW, hW, B.notSynchronized, B.returns, rfl, mkCX hG hW, hS, hG⟩ ⟨rfl, hno⟩
  have hle := lv_entry As hl
  rw [lg_entry_eq]
  have h2 := hb s.heap [] _ hK hP hD hS (by rw [hml, lE_args]; exact hle)
  exact h2
