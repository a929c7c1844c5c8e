/-! sums: the law's way and the class's -/
theorem Fl_first {N st : Nat} {T : Nat → Nat → Nat} (hst : st < N) : ∀ t z, z < N → Fl N T st (t + 1) z = sm N (fun y => T st y * Fl N T y t z) := by
  have one : ∀ (n : Nat) (k : Nat) (f : Nat → Nat), sm n (fun x => (if x = k then 1 else 0) * f x) = if k < n then f k else 0 := by
    intro n k f
    induction n with
    | zero => rw [if_neg (by omega)]; rfl
    | succ n ih =>
      rw [sm, ih]
      by_cases c : n = k
      · rw [if_pos c, if_neg (by omega), if_pos (by omega), c]
        omega
      · rw [if_neg c]
        by_cases d : k < n
        · rw [if_pos d, if_pos (by omega)]
          omega
        · rw [if_neg d, if_neg (by omega)]
          omega
  intro t
  induction t with
  | zero =>
    intro z hz
    show sm N (fun x => (if x = st then 1 else 0) * T x z) = sm N (fun y => T st y * (if z = y then 1 else 0))
    rw [one N st (fun x => T x z), if_pos hst, sm_congr (g := fun y => (if y = z then 1 else 0) * T st y) (fun y _ => by
      by_cases c : z = y
      · rw [if_pos c, if_pos c.symm, Nat.mul_comm]
      · rw [if_neg c, if_neg (fun e => c e.symm), Nat.mul_comm]), one N z (fun y => T st y), if_pos hz]
  | succ t ih =>
    intro z hz
    show sm N (fun x => Fl N T st (t + 1) x * T x z) = sm N (fun y => T st y * sm N (fun x => Fl N T y t x * T x z))
    rw [sm_congr (g := fun x => sm N (fun y => T st y * Fl N T y t x * T x z)) (fun x hx => by
      rw [ih x hx, Nat.mul_comm, ← sm_mul]
      exact sm_congr (fun y _ => by rw [Nat.mul_comm])), sm_swap]
    refine sm_congr (fun y _ => ?_)
    rw [← sm_mul]
    exact sm_congr (fun x _ => by rw [Nat.mul_assoc])
theorem hor_first {F : Nat → Int64} : ∀ n, hor F (n + 1) = F 0 * lN (1000 ^ n) + hor (fun t => F (t + 1)) n
  | 0 => by
    show 0 * 1000 + F 0 = F 0 * lN 1 + 0
    rw [show lN 1 = (1 : Int64) from rfl]
    grind
  | n + 1 => by
    have h := hor_first (F := F) n
    show hor F (n + 1) * 1000 + F (n + 1) = F 0 * lN (1000 ^ (n + 1)) + (hor (fun t => F (t + 1)) n * 1000 + F (n + 1))
    rw [h, Nat.pow_succ, ← lN_mul, show lN 1000 = (1000 : Int64) from rfl]
    grind
theorem hor_lin {N : Nat} {c : Nat → Int64} {F : Nat → Nat → Int64} : ∀ n, hor (fun t => smL N (fun z => c z * F z t)) n = smL N (fun z => c z * hor (F z) n)
  | 0 => by
    show 0 = smL N (fun z => c z * 0)
    rw [smL_congr (G := fun _ => 0) (fun z _ => Int64.mul_zero)]
    exact smL_zero.symm
  | n + 1 => by
    show hor (fun t => smL N (fun z => c z * F z t)) n * 1000 + smL N (fun z => c z * F z n) = smL N (fun z => c z * (hor (F z) n * 1000 + F z n))
    rw [hor_lin n, ← smL_mulr, ← smL_add]
    exact smL_congr (fun z _ => by grind)
theorem lN_Fl {N f t y : Nat} {T : Nat → Nat → Nat} (hf : f < N) (hy : y < N) : lN (Fl N T f (t + 1) y) = smL N (fun z => lN (T f z) * lN (Fl N T z t y)) := by
  rw [Fl_first hf t y hy, ← lN_smL]
  exact smL_congr (fun z _ => by rw [lN_mul])
theorem hor_Fl {N f y n : Nat} {T : Nat → Nat → Nat} (hf : f < N) (hy : y < N) : hor (fun t => lN (Fl N T f t y)) (n + 1) = (if y = f then 1 else 0) * lN (1000 ^ n) + smL N (fun z => lN (T f z) * hor (fun t => lN (Fl N T z t y)) n) := by
  rw [hor_first, hor_congr (G := fun t => smL N (fun z => lN (T f z) * lN (Fl N T z t y))) (fun t _ => lN_Fl hf hy), hor_lin]
  congr 1
  show lN (if y = f then 1 else 0) * _ = _
  by_cases c : y = f
  · rw [if_pos c, if_pos c]
    rfl
  · rw [if_neg c, if_neg c]
    rfl
theorem smL_one {N f : Nat} (hf : f < N) {g : Nat → Int64} {c : Int64} : smL N (fun y => ((if y = f then 1 else 0) * c) * g y) = g f * c := by
  have h : ∀ n, smL n (fun y => ((if y = f then 1 else 0) * c) * g y) = if f < n then g f * c else 0 := by
    intro n
    induction n with
    | zero => rw [if_neg (by omega)]; rfl
    | succ n ih =>
      show smL n _ + ((if n = f then (1 : Int64) else 0) * c) * g n = _
      rw [ih]
      by_cases d : n = f
      · rw [if_neg (by omega), if_pos d, if_pos (by omega), d]
        grind
      · rw [if_neg d]
        by_cases e : f < n
        · rw [if_pos e, if_pos (by omega)]
          grind
        · rw [if_neg e, if_neg (by omega)]
          grind
  rw [h N, if_pos hf]
theorem mnL_run {N : Nat} {T : Nat → Nat → Nat} {g : Nat → Int64} : ∀ n f, f < N → mnL N T g n f = smL N (fun y => hor (fun t => lN (Fl N T f t y)) n * g y)
  | 0, f, _ => by
    show 0 = smL N (fun y => 0 * g y)
    rw [smL_congr (G := fun _ => 0) (fun y _ => Int64.zero_mul)]
    exact smL_zero.symm
  | n + 1, f, hf => by
    rw [mnL, smL_congr (G := fun z => lN (T f z) * smL N (fun y => hor (fun t => lN (Fl N T z t y)) n * g y)) (fun z hz => by rw [mnL_run n z hz]), smL_congr (F := fun y => hor (fun t => lN (Fl N T f t y)) (n + 1) * g y) (G := fun y => ((if y = f then 1 else 0) * lN (1000 ^ n)) * g y + smL N (fun z => (lN (T f z) * hor (fun t => lN (Fl N T z t y)) n) * g y)) (fun y hy => by rw [hor_Fl hf hy, Int64.add_mul, smL_mulr]), smL_add, smL_one hf, smL_swap]
    congr 1
    refine smL_congr (fun z _ => ?_)
    rw [← smL_mul]
    exact smL_congr (fun y _ => by rw [Int64.mul_assoc])
theorem htL_hit {N z : Nat} {T : Nat → Nat → Nat} (hz : z < N) : ∀ n f, f < N → htL N T z n f = hor (fun t => lN (Fl N (fun a y => if a = z then 0 else T a y) f t z)) (n + 1)
  | 0, f, hf => by
    show (if f = z then (1 : Int64) else 0) = 0 * 1000 + lN (if z = f then 1 else 0)
    by_cases c : f = z
    · rw [if_pos c, if_pos c.symm]
      rfl
    · rw [if_neg c, if_neg (fun e => c e.symm)]
      rfl
  | n + 1, f, hf => by
    rw [hor_Fl hf hz, htL]
    by_cases c : f = z
    · rw [if_pos c, if_pos c.symm, smL_congr (G := fun _ => 0) (fun y _ => by
        rw [if_pos c, show lN 0 = (0 : Int64) from rfl]
        exact Int64.zero_mul), smL_zero, Int64.add_zero, Int64.one_mul]
    · rw [if_neg c, if_neg (fun e => c e.symm), Int64.zero_mul, Int64.zero_add]
      refine smL_congr (fun y hy => ?_)
      rw [if_neg c, htL_hit hz n y hy]
theorem Fl_1000 {N st : Nat} {T : Nat → Nat → Nat} (hst : st < N) (hT : ∀ x, x < N → sm N (T x) = 1000) : ∀ t, sm N (Fl N T st t) = 1000 ^ t
  | 0 => by
    have : ∀ n, sm n (fun x => if x = st then 1 else 0) = if st < n then 1 else 0 := by
      intro n
      induction n with
      | zero => rw [if_neg (by omega)]; rfl
      | succ n ih =>
        rw [sm, ih]
        by_cases c : n = st
        · rw [if_pos c, if_neg (by omega), if_pos (by omega)]
        · rw [if_neg c]
          by_cases d : st < n
          · rw [if_pos d, if_pos (by omega)]
          · rw [if_neg d, if_neg (by omega)]
    show sm N (fun x => if x = st then 1 else 0) = 1
    rw [this, if_pos hst]
  | t + 1 => by
    show sm N (fun y => sm N (fun x => Fl N T st t x * T x y)) = _
    rw [sm_swap, sm_congr (g := fun x => 1000 * Fl N T st t x) (fun x hx => by rw [sm_mul, hT x hx, Nat.mul_comm]), sm_mul, Fl_1000 hst hT t, Nat.pow_succ, Nat.mul_comm]
theorem gRun_mn {P S : Nat → Int32} (hst : pn S 0 < cN P) : mnL (cN P) (TT P S) (gq P S (-1)) (pn S 1) (pn S 0) = gRun P (sW9 S) (pn S 0) (pn S 1) := by
  rw [mnL_run _ _ hst]
  rfl
theorem uRun_mn {P S : Nat → Int32} {b : Nat} (hb : b < 3) (hst : pn S 0 < cN P) : mnL (cN P) (TT P S) (gq P S (nI b)) (pn S 1) (pn S 0) = uRun P (sW9 S) b (pn S 0) (pn S 1) := by
  rw [mnL_run _ _ hst]
  have e : gq P S (nI b) = uNow P (sW9 S) b := by
    funext x
    unfold gq
    rw [if_neg (nI_ne_neg (by omega)), nI_clamp (by omega)]
  rw [e]
  rfl
