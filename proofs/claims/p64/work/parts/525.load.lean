/-! load -/
def KeC (M : Mem) : Prop := ∃ c rot, c ≤ 7 ∧ gI M 35 0 = nI c ∧ RoT M rot
def HasC (P S : Nat → Int32) (M : Mem) : Prop := VP P ∧ RP P M 3 ∧ VS P S ∧ RS P M 10 S ∧ KeC M
def S0 (P : Nat → Int32) (i : Nat) : Int32 := if i = 0 then P 2 else if i = 1 then P 3 else if i = 2 then P 4 else if i = 3 then -1 else if i < 22 then (if (i - 4) / 3 < cN P ∧ (i - 4) % 3 < cM P ((i - 4) / 3) then nI (wS P ((i - 4) / 3) ((i - 4) % 3)) else nI 0) else if i < 40 then (if (i - 22) / 3 < cN P ∧ (i - 22) % 3 < cM P ((i - 22) / 3) then nI 1 else nI 0) else if i < 43 then P (5 + (i - 40)) else nI 0
theorem S0_r {P : Nat → Int32} {y a : Nat} (hy : y < 6) (ha : a < 3) : S0 P (4 + (y * 3 + a)) = (if y < cN P ∧ a < cM P y then nI (wS P y a) else nI 0) ∧ S0 P (22 + (y * 3 + a)) = if y < cN P ∧ a < cM P y then nI 1 else nI 0 := by
  constructor
  · unfold S0
    rw [if_neg (by omega), if_neg (by omega), if_neg (by omega), if_neg (by omega), if_pos (by omega), show (4 + (y * 3 + a) - 4) / 3 = y by omega, show (4 + (y * 3 + a) - 4) % 3 = a by omega]
  · unfold S0
    rw [if_neg (by omega), if_neg (by omega), if_neg (by omega), if_neg (by omega), if_neg (by omega), if_pos (by omega), show (22 + (y * 3 + a) - 22) / 3 = y by omega, show (22 + (y * 3 + a) - 22) % 3 = a by omega]
theorem S0_l {P : Nat → Int32} {b : Nat} (hb : b < 3) : S0 P (40 + b) = P (5 + b) := by
  unfold S0
  rw [if_neg (by omega), if_neg (by omega), if_neg (by omega), if_neg (by omega), if_neg (by omega), if_neg (by omega), if_pos (by omega), show 40 + b - 40 = b by omega]
theorem S0_w {P : Nat → Int32} {i : Nat} (hi : 43 ≤ i) : S0 P i = nI 0 := by
  unfold S0
  rw [if_neg (by omega), if_neg (by omega), if_neg (by omega), if_neg (by omega), if_neg (by omega), if_neg (by omega), if_neg (by omega)]
def lLd : List Nat := [1, 3, 4, 5, 6, 7, 8, 9, 10, 11, 12, 13, 14, 15, 21, 22, 23, 24, 25, 26, 27, 28, 29, 30, 31, 32, 35, 96]
theorem load_ok {Z q nn nb h s st rot : Nat} {M ML : Mem} {T t1 t2 t3 : List Nat} (hZ : 4000 < Z) (hI : Ini ML nn nb h s st t1 t2 t3) (hT : T = WL.getD 10 [] ++ dgs nn ++ WL.getD 11 [] ++ dgs h ++ WL.getD 12 [] ++ dgs s ++ t1 ++ t2 ++ t3) (hTb : ∀ b ∈ T, b < 128) (h1 : gI M 1 1 = nI q) (hq : q ≤ 1200) (hn : T.length ≤ q) (h2 : ∀ j, j < T.length → gI M 2 j = nI (T.getD j 0)) (h33 : ∀ t, gI M 33 t = 0 ∧ gI M 34 t = 0) (hrot : RoT M rot) : ∃ M' P, f_X11_load Z M (nI T.length) = some (.ok (nI (sm (cN P) (cM P))), M') ∧ fr lLd M M' ∧ gI M' 21 2 = 0 ∧ gI M' 21 3 = -1 ∧ HasC P (S0 P) M' ∧ RLw ML P nn nb h s st := by
  have hC : ∀ i, i < T.length → T.getD i 0 < 256 ∧ gI M 2 i = bySg (T.getD i 0) := fun i hi => by
    have := hTb _ (getD_mem hi)
    exact ⟨by omega, by rw [bySg_lt _ this]; exact h2 i hi⟩
  obtain ⟨M1, P, e1, f1, q1, w1, V1, hz, hL⟩ := parse_ok (b := fun i => T.getD i 0) (n := T.length) hZ (by omega) hC hI ⟨by rw [← hT]; omega, fun j hj => by rw [← hT]; show T.getD (0 + j) 0 = _; rw [Nat.zero_add]⟩
  have F4 : fr lP M (sI M1 1 1 (0 : Int32)) := fr_sI f1 (by decide)
  have e4 : ∀ o, o ≠ 1 → gI (sI M1 1 1 (0 : Int32)) o = gI M1 o := fun o ho => by rw [gI_sI', if_neg ho]
  have eX : f_X11_load Z M (nI T.length) = kCopy Z (sI M1 1 1 (0 : Int32)) := by
    rw [loadC_in h1 hq hn, e1, cl_some, bd_eq, if_neg (by decide)]
  generalize sI M1 1 1 (0 : Int32) = M4 at *
  obtain ⟨M5, kc, F5, h5, c5, x35, x353, x96⟩ := kCopy_ok (Z := Z) (M := M4) hZ
  have hQ4 : CQ0 P M4 := q1.tr V1.1.T (fun o a b => e4 o (by omega)) (fun _ _ => rfl)
  have hW4 : CQW P M4 := w1.tr (e4 30 (by decide)) (fun _ _ => rfl)
  have cnt := kc P hQ4.1 V1.1
  have h34 : ∀ t, gI M4 33 t = 0 ∧ gI M4 34 t = 0 := fun t => by
    rw [F4.I (show 33 ∉ lP by decide), F4.I (show 34 ∉ lP by decide)]
    exact h33 t
  have sr : ∀ y, y < 6 → ∀ a, a < 3 → (y < cN P ∧ a < cM P y → S0 P (4 + (y * 3 + a)) = nI (wS P y a) ∧ S0 P (22 + (y * 3 + a)) = nI 1) ∧ (¬ (y < cN P ∧ a < cM P y) → S0 P (4 + (y * 3 + a)) = nI 0 ∧ S0 P (22 + (y * 3 + a)) = nI 0) := fun y hy a ha => by
    obtain ⟨g1, g2⟩ := S0_r (P := P) hy ha
    rw [g1, g2]
    exact ⟨fun c => ⟨if_pos c, if_pos c⟩, fun c => ⟨if_neg c, if_neg c⟩⟩
  have s0 : ∀ i, i < 3 → S0 P i = P (2 + i) := fun i hi => by
    have : i = 0 ∨ i = 1 ∨ i = 2 := by omega
    rcases this with c | c | c <;> subst c <;> rfl
  have hS : RS P M5 10 (S0 P) := (RS.start V1 hz s0 rfl (fun i hi => S0_l hi) (fun i hi _ => S0_w hi) sr hQ4 hW4 h34).cpd V1.1.N.2 c5
  have hv : VS P (S0 P) := VS.start V1 hz s0 rfl (fun i hi => S0_l hi) sr
  obtain ⟨qq, _, qb, _⟩ := hQ4.2.2.2.2
  refine ⟨M5, P, by rw [eX, cnt], (F4.mono (by decide)).trans (F5.mono (by decide)), ?_, ?_, ⟨V1.vp hz, h5 P V1.1.T hQ4.1, hv, hS, 0, rot, by decide, x35, hrot.to ?_⟩, hL⟩
  · rw [F5.I (by decide)]
    exact qb.2.1
  · rw [F5.I (by decide)]
    exact qb.2.2
  · rw [F5.R (by decide), F4.R (by decide)]
