/-! the relation of the class's memory and the reference's -/
def pn (f : Nat → Int32) (i : Nat) : Nat := (f i).toNatClampNeg
/-- the chain in the reference's row p, as numbers -/
def cN (P : Nat → Int32) : Nat := pn P 0
def cB (P : Nat → Int32) : Nat := pn P 1
def cM (P : Nat → Int32) (x : Nat) : Nat := if x < 6 then pn P (8 + x) else 0
def cA (P : Nat → Int32) (r b : Nat) : Nat := if r < 18 ∧ b < 3 then pn P (32 + r * 3 + b) else 0
def cP (P : Nat → Int32) (r y : Nat) : Nat := if r < 18 ∧ y < 6 then pn P (86 + r * 6 + y) else 0
def cT (P : Nat → Int32) (r : Nat) : Nat := if r < 18 then pn P (194 + r) else 0
def cO (P : Nat → Int32) (r k : Nat) : Nat := if r < 18 ∧ k < 6 then pn P (212 + r * 6 + k) else 0
/-- what holds of a loaded chain -/
def VP (P : Nat → Int32) : Prop := (∀ i, i < 344 → ¬ (14 ≤ i ∧ i < 32) → P i = nI (pn P i)) ∧ (1 ≤ cN P ∧ cN P ≤ 6 ∧ cB P ≤ 3) ∧ (∀ x, cM P x ≤ 3) ∧ (∀ x, x < cN P → 1 ≤ cM P x) ∧
  (∀ r, r < 18 → -999 ≤ (P (14 + r)).toInt ∧ (P (14 + r)).toInt ≤ 999) ∧ (∀ r b, cA P r b ≤ 99) ∧ (∀ r y, cP P r y ≤ 100) ∧
  (∀ x, x < cN P → ∀ a, a < cM P x → sm (cN P) (cP P (x * 3 + a)) = 100 ∧ cT P (x * 3 + a) ≤ 6 ∧ (∀ k, k < cT P (x * 3 + a) → cO P (x * 3 + a) k < cN P) ∧ sm (cT P (x * 3 + a)) (fun k => cP P (x * 3 + a) (cO P (x * 3 + a) k)) = 100)
/-- the settings in a row of the reference -/
def sW9 (S : Nat → Int32) (r : Nat) : Nat := if r < 18 then pn S (4 + r) else 0
def VS (P S : Nat → Int32) : Prop := (S 0 = nI (pn S 0) ∧ pn S 0 < cN P) ∧ (S 1 = nI (pn S 1) ∧ 1 ≤ pn S 1 ∧ pn S 1 ≤ 5) ∧ (S 2 = nI (pn S 2) ∧ pn S 2 < 30011) ∧
  (∀ r, r < 18 → S (4 + r) = nI (sW9 S r)) ∧ (∀ r, sW9 S r ≤ 10) ∧ (∀ x, x < cN P → sm (cM P x) (fun a => sW9 S (x * 3 + a)) = 10 ∧ ∀ a, cM P x ≤ a → a < 3 → sW9 S (x * 3 + a) = 0) ∧
  (∀ r, r < 18 → S (22 + r) = nI 0 ∨ S (22 + r) = nI 1) ∧ (∀ x, x < cN P → ∃ a, a < cM P x ∧ S (22 + (x * 3 + a)) = nI 1) ∧
  (∀ b, b < 3 → S (40 + b) = nI (pn S (40 + b)) ∧ pn S (40 + b) ≤ 9999) ∧
  (S 3 = -1 ∨ (S 3 = nI (pn S 3) ∧ 1 ≤ pn S 3 ∧ pn S 3 ≤ 5 ∧ (∀ t, t ≤ pn S 3 → S (43 + t) = nI (pn S (43 + t)) ∧ pn S (43 + t) < cN P) ∧ ∀ t, t < pn S 3 → S (49 + t) = nI (pn S (49 + t)) ∧ pn S (49 + t) < cM P (pn S (43 + t))))
/-- the class's settings in the object o, beside a row -/
def RS (P : Nat → Int32) (M : Mem) (o : Nat) (S : Nat → Int32) : Prop := (gI M o 3 = S 0 ∧ gI M o 4 = S 1 ∧ gI M o 5 = S 2 ∧ gI M o 6 = S 3) ∧ (∀ r, r < 3 * cN P → gI M (o + 1) r = S (4 + r)) ∧
  (∀ x, x < cN P → ∃ q, q < 8 ∧ gI M (o + 2) x = nI q ∧ ∀ a, a < cM P x → S (22 + (x * 3 + a)) = nI (q / 2 ^ a % 2)) ∧ (∀ b, b < 3 → gI M (o + 3) b = S (40 + b)) ∧ (∀ t, t < 6 → gI M (o + 4) t = S (43 + t)) ∧ ∀ t, t < 5 → gI M (o + 5) t = S (49 + t)
/-- the class's chain in the object o, beside the row p -/
def RP (P : Nat → Int32) (M : Mem) (o : Nat) : Prop := gI M o 0 = P 0 ∧ gI M o 1 = P 1 ∧ (∀ x, x < 6 → gI M (o + 1) x = P (8 + x)) ∧ (∀ r, r < 18 → gI M (o + 2) r = P (14 + r)) ∧ (∀ k, k < 54 → gI M (o + 3) k = P (32 + k)) ∧ (∀ k, k < 108 → gI M (o + 4) k = P (86 + k)) ∧
  (∀ r, r < 18 → gI M (o + 6) r = P (194 + r)) ∧ ∀ r, r < 18 → ∀ k, k < cT P r → gI M (o + 5) (r * 6 + k) = P (212 + r * 6 + k)
/-- sums of longs -/
def smL : Nat → (Nat → Int64) → Int64
  | 0, _ => 0
  | n + 1, f => smL n f + f n
/-- a row brought to the power of its last time -/
def hor (F : Nat → Int64) : Nat → Int64
  | 0 => 0
  | n + 1 => hor F n * 1000 + F n
def gNow (P : Nat → Int32) (W : Nat → Nat) (x : Nat) : Int64 := smL (cM P x) (fun a => lN (W (x * 3 + a)) * (P (14 + (x * 3 + a))).toInt64)
def uNow (P : Nat → Int32) (W : Nat → Nat) (b x : Nat) : Int64 := smL (cM P x) (fun a => lN (W (x * 3 + a) * cA P (x * 3 + a) b))
def fNow (P : Nat → Int32) (W : Nat → Nat) (st t x : Nat) : Nat := Fl (cN P) (Tp (cM P) (cP P) W) st t x
def gRun (P : Nat → Int32) (W : Nat → Nat) (st H : Nat) : Int64 := smL (cN P) (fun x => hor (fun t => lN (fNow P W st t x)) H * gNow P W x)
def uRun (P : Nat → Int32) (W : Nat → Nat) (b st H : Nat) : Int64 := smL (cN P) (fun x => hor (fun t => lN (fNow P W st t x)) H * uNow P W b x)
/-- pure sets: the next one, the last state's action first -/
def odo (m : Nat → Nat) (c : Nat → Nat) : Nat → Option (Nat → Nat)
  | 0 => none
  | x + 1 => if c x + 1 < m x then some (fun y => if y = x then c x + 1 else if x < y then 0 else c y) else odo m c x
def cho (P : Nat → Int32) : Nat → Option (Nat → Nat)
  | 0 => some (fun _ => 0)
  | k + 1 => match cho P k with
    | some c => odo (cM P) c (cN P)
    | none => none
def wPure (c : Nat → Nat) (r : Nat) : Nat := if r % 3 = c (r / 3) then 10 else 0
def Cache (P : Nat → Int32) (M : Mem) : Prop := gI M 96 5 = -1 ∨ ∃ st H, gI M 96 5 = nI st ∧ gI M 96 6 = nI H ∧ st < cN P ∧ 1 ≤ H ∧ H ≤ 5 ∧ ∀ k c, cho P k = some c → gL M 97 k = gRun P (wPure c) st H ∧ ∀ b, b < cB P → gL M 98 (k * 3 + b) = uRun P (wPure c) b st H
/-- a loaded object -/
def Has (M : Mem) : Prop := gI M 108 1 = nI 1 ∧ VP (gI M 112) ∧ RP (gI M 112) M 3 ∧ VS (gI M 112) (gI M 109) ∧ RS (gI M 112) M 10 (gI M 109) ∧
  (gI M 35 0 = gI M 108 4 ∧ gI M 108 4 = nI (pn (gI M 108) 4) ∧ pn (gI M 108) 4 ≤ 7) ∧
  (∃ rot, rot < 7 ∧ (∀ k, k < 7 → gR M 36 k = some (38 + 6 * ((rot + k) % 7))) ∧ ∀ k, k < pn (gI M 108) 4 → VS (gI M 112) (fun i => gI M 110 (54 * (1 + k) + i)) ∧ RS (gI M 112) M (38 + 6 * ((rot + k) % 7)) (fun i => gI M 110 (54 * (1 + k) + i))) ∧
  (∃ q, q < 4 ∧ gI M 35 3 = nI q ∧ ∀ z, z < 2 → gI M 111 z = nI (q / 2 ^ z % 2) ∧ (q / 2 ^ z % 2 = 1 → VS (gI M 112) (fun i => gI M 110 (54 * (8 + z) + i)) ∧ RS (gI M 112) M (80 + 6 * z) (fun i => gI M 110 (54 * (8 + z) + i)))) ∧ Cache (gI M 112) M
/-- an object without a chain -/
def Hasnt (M : Mem) : Prop := gI M 108 1 = nI 0 ∧ gI M 3 0 = nI 0 ∧ gI M 3 1 = nI 0 ∧ gI M 10 4 = nI 0 ∧ gI M 35 0 = nI 0 ∧ gI M 108 4 = nI 0 ∧ gI M 35 3 = nI 0 ∧ gI M 111 0 = nI 0 ∧ gI M 111 1 = nI 0 ∧ ∃ rot, rot < 7 ∧ ∀ k, k < 7 → gR M 36 k = some (38 + 6 * ((rot + k) % 7))
def Inv (M : Mem) : Prop := (gI M 1 1 = gI M 108 9 ∧ gI M 108 9 = nI (pn (gI M 108) 9) ∧ pn (gI M 108) 9 ≤ 1200 ∧ ∀ i, i < pn (gI M 108) 9 → ∃ v, v < 256 ∧ gI M 114 i = nI v ∧ gI M 2 i = (nI v).toInt8.toInt32) ∧
  (gI M 21 2 = gI M 108 10 ∧ gI M 21 3 = gI M 108 11) ∧
  (gI M 106 0 = gI M 106 0 ∧ gI M 105 1 = gI M 108 31 ∧ gI M 108 31 = nI (pn (gI M 108) 31) ∧ pn (gI M 108) 31 ≤ 114 ∧ ∀ i, i < pn (gI M 108) 31 → gI M 106 i = gI M 123 i) ∧
  (gR M 37 0 = some 80 ∧ gR M 37 1 = some 86) ∧ ((gR M 92 1 = some 93 ∧ gR M 92 2 = some 94 ∨ gR M 92 1 = some 94 ∧ gR M 92 2 = some 93) ∧ ∀ t, gI M 33 t = 0 ∧ gI M 34 t = 0) ∧ (Hasnt M ∨ Has M)
/-- objects that Inv does not look at -/
def scrL : List Nat := [16, 17, 18, 19, 20, 93, 94, 95, 99, 100, 101, 102, 103, 104, 107, 113, 115, 116, 117, 118, 119, 120, 121, 122, 124, 125]
/-- a change that Inv does not see: but the reference's code of exceptions and its like -/
def kp (M M' : Mem) : Prop := (∀ o, o ∉ scrL → o ≠ 108 → gI M' o = gI M o ∧ gL M' o = gL M o ∧ gR M' o = gR M o) ∧ ∀ k, k = 1 ∨ k = 4 ∨ k = 9 ∨ k = 10 ∨ k = 11 ∨ k = 31 → gI M' 108 k = gI M 108 k
theorem kp.rfl {M : Mem} : kp M M := ⟨fun _ _ _ => ⟨Eq.refl _, Eq.refl _, Eq.refl _⟩, fun _ _ => Eq.refl _⟩
theorem kp.trans {M M1 M2 : Mem} (h : kp M M1) (h2 : kp M1 M2) : kp M M2 := ⟨fun o a b => ⟨(h2.1 o a b).1.trans (h.1 o a b).1, (h2.1 o a b).2.1.trans (h.1 o a b).2.1, (h2.1 o a b).2.2.trans (h.1 o a b).2.2⟩, fun k hk => (h2.2 k hk).trans (h.2 k hk)⟩
theorem kp.of {l : List Nat} {M M1 : Mem} (h : fr l M M1) (hl : ∀ o ∈ l, o ∈ scrL) : kp M M1 := by
  refine ⟨fun o a _ => h o (fun z => a (hl o z)), fun k _ => ?_⟩
  rw [h.I (fun z => absurd (hl 108 z) (by decide))]
theorem kp.thr {M : Mem} {v : Int32} : kp M (sI M 108 0 v) := by
  refine ⟨fun o _ b => ⟨?_, by rw [gL_sI'], by rw [gR_sI']⟩, fun k hk => ?_⟩
  · rw [gI_sI', if_neg b]
  · rw [gI_sI, if_neg (by omega)]
theorem RS.kp {P : Nat → Int32} {M M' : Mem} {o : Nat} {S : Nat → Int32} (h : RS P M o S) (hk : kp M M') (ho : ∀ i, i < 6 → o + i ∉ scrL ∧ o + i ≠ 108) : RS P M' o S := by
  unfold RS
  rw [(hk.1 o (ho 0 (by decide)).1 (ho 0 (by decide)).2).1, (hk.1 (o + 1) (ho 1 (by decide)).1 (ho 1 (by decide)).2).1, (hk.1 (o + 2) (ho 2 (by decide)).1 (ho 2 (by decide)).2).1, (hk.1 (o + 3) (ho 3 (by decide)).1 (ho 3 (by decide)).2).1, (hk.1 (o + 4) (ho 4 (by decide)).1 (ho 4 (by decide)).2).1, (hk.1 (o + 5) (ho 5 (by decide)).1 (ho 5 (by decide)).2).1]
  exact h
theorem rot_ok : ∀ j, j < 7 → ∀ i, i < 6 → 38 + 6 * j + i ∉ scrL ∧ 38 + 6 * j + i ≠ 108 := by decide
theorem slot_ok : ∀ j, j < 2 → ∀ i, i < 6 → 80 + 6 * j + i ∉ scrL ∧ 80 + 6 * j + i ≠ 108 := by decide
theorem now_ok : ∀ i, i < 6 → 10 + i ∉ scrL ∧ 10 + i ≠ 108 := by decide
theorem Has.kp {M M' : Mem} (h : Has M) (hk : kp M M') : Has M' := by
  obtain ⟨h1, h2, h3, h4, h5, h6, ⟨rot, r1, r2, r3⟩, ⟨q, q1, q2, q3⟩, h9⟩ := h
  have e112 := (hk.1 112 (by decide) (by decide)).1
  have e109 := (hk.1 109 (by decide) (by decide)).1
  have e110 := (hk.1 110 (by decide) (by decide)).1
  have e35 := (hk.1 35 (by decide) (by decide)).1
  have e111 := (hk.1 111 (by decide) (by decide)).1
  have e36 := (hk.1 36 (by decide) (by decide)).2.2
  have k4 := hk.2 4 (by decide)
  have p4 : pn (gI M' 108) 4 = pn (gI M 108) 4 := by unfold pn; rw [k4]
  refine ⟨by rw [hk.2 1 (by decide)]; exact h1, by rw [e112]; exact h2, ?_, by rw [e112, e109]; exact h4, by rw [e112, e109]; exact h5.kp hk now_ok, ?_, ⟨rot, r1, by rw [e36]; exact r2, ?_⟩, ⟨q, q1, by rw [e35]; exact q2, ?_⟩, ?_⟩
  · rw [e112]
    unfold RP
    rw [(hk.1 3 (by decide) (by decide)).1, (hk.1 (3 + 1) (by decide) (by decide)).1, (hk.1 (3 + 2) (by decide) (by decide)).1, (hk.1 (3 + 3) (by decide) (by decide)).1, (hk.1 (3 + 4) (by decide) (by decide)).1, (hk.1 (3 + 5) (by decide) (by decide)).1, (hk.1 (3 + 6) (by decide) (by decide)).1]
    exact h3
  · rw [e35, k4, p4]
    exact h6
  · rw [p4, e112, e110]
    intro k hk9
    obtain ⟨a, b⟩ := r3 k hk9
    exact ⟨a, b.kp hk (rot_ok _ (Nat.mod_lt _ (by decide)))⟩
  · rw [e111, e112, e110]
    intro z hz
    obtain ⟨a, b⟩ := q3 z hz
    exact ⟨a, fun y => ⟨(b y).1, (b y).2.kp hk (slot_ok z hz)⟩⟩
  · rw [e112]
    unfold Cache
    rw [(hk.1 96 (by decide) (by decide)).1, (hk.1 97 (by decide) (by decide)).2.1, (hk.1 98 (by decide) (by decide)).2.1]
    exact h9
theorem Inv.kp {M M' : Mem} (h : Inv M) (hk : kp M M') : Inv M' := by
  obtain ⟨h1, h2, h3, h4, h5, h6⟩ := h
  have k9 := hk.2 9 (by decide)
  have k31 := hk.2 31 (by decide)
  have p9 : pn (gI M' 108) 9 = pn (gI M 108) 9 := by unfold pn; rw [k9]
  have p31 : pn (gI M' 108) 31 = pn (gI M 108) 31 := by unfold pn; rw [k31]
  refine ⟨?_, ?_, ?_, ?_, ?_, h6.elim (fun h => Or.inl ?_) (fun h => Or.inr (h.kp hk))⟩
  · rw [k9, p9, (hk.1 1 (by decide) (by decide)).1, (hk.1 2 (by decide) (by decide)).1, (hk.1 114 (by decide) (by decide)).1]
    exact h1
  · rw [hk.2 10 (by decide), hk.2 11 (by decide), (hk.1 21 (by decide) (by decide)).1]
    exact h2
  · rw [k31, p31, (hk.1 105 (by decide) (by decide)).1, (hk.1 106 (by decide) (by decide)).1, (hk.1 123 (by decide) (by decide)).1]
    exact h3
  · rw [(hk.1 37 (by decide) (by decide)).2.2]
    exact h4
  · rw [(hk.1 92 (by decide) (by decide)).2.2, (hk.1 33 (by decide) (by decide)).1, (hk.1 34 (by decide) (by decide)).1]
    exact h5
  · unfold Hasnt
    rw [hk.2 1 (by decide), hk.2 4 (by decide), (hk.1 3 (by decide) (by decide)).1, (hk.1 10 (by decide) (by decide)).1, (hk.1 35 (by decide) (by decide)).1, (hk.1 111 (by decide) (by decide)).1, (hk.1 36 (by decide) (by decide)).2.2]
    exact h

