theorem fr_sR {l : List Nat} {M M1 : Mem} {o k : Nat} {v : Option Nat} (h : fr l M M1) (ho : o ∈ l) : fr l M (sR M1 o k v) := fun a ha => by
  rw [gI_sR', gL_sR']
  refine ⟨(h a ha).1, (h a ha).2.1, ?_⟩
  rw [← (h a ha).2.2]
  funext b
  rw [gR_sR, if_neg (fun z => ha (by rw [z.1]; exact ho))]
theorem rdR_n {β : Type} {M : Mem} {o n j q : Nat} {sh : List SE} {e : SE} {k : Nat → Option β} (h : j < n) (hn : n < 100000) (hq : gR M o j = some q) (hs : sh[q]? = some e) : rdR M o n (nI j) sh e k = k q := by
  have e1 := nI_clamp (n := j) (by omega)
  have : inB (nI j) n = true := by
    simp only [inB, Bool.and_eq_true, decide_eq_true_eq, e1]
    exact ⟨nI_pos' (by omega), h⟩
  unfold rdR
  rw [if_pos this, e1, hq]
  exact if_pos hs
theorem wrR_n {β : Type} {M : Mem} {o n j v : Nat} {k : Mem → Option β} (h : j < n) (hn : n < 100000) : wrR M o n (nI j) v k = k (sR M o j (some v)) := by
  have e := nI_clamp (n := j) (by omega)
  have : inB (nI j) n = true := by
    simp only [inB, Bool.and_eq_true, decide_eq_true_eq, e]
    exact ⟨nI_pos' (by omega), h⟩
  simp only [wrR, this, if_true, e]
theorem rot_sh : ∀ j, j < 7 → SH[38 + 6 * j]? = some (13, 9) := by decide
theorem rot_sh' (a : Nat) : SH[38 + 6 * (a % 7)]? = some (13, 9) := rot_sh _ (Nat.mod_lt _ (by decide))
/-- the places of the settings before the changes -/
def RoT (M : Mem) (rot : Nat) : Prop := ∀ k, k < 7 → gR M 36 k = some (38 + 6 * ((rot + k) % 7))
theorem RoT.to {M M' : Mem} {rot : Nat} (h : RoT M rot) (h1 : gR M' 36 = gR M 36) : RoT M' rot := by
  unfold RoT
  rw [h1]
  exact h
theorem i7 : (7 : Int32) = nI 7 := by decide
theorem dropOldest_ok {Z : Nat} (hZ : 20 < Z) {M : Mem} {rot : Nat} (h : RoT M rot) : OK (f_X3_dropOldest Z M) (fun _ M' => fr [35, 36] M M' ∧ RoT M' (rot + 1) ∧ gI M' 35 0 = nI 6 ∧ gI M' 35 3 = gI M 35 3) := by
  unfold f_X3_dropOldest
  rw [i0, rdR_n (by decide) (by decide) (h 0 (by decide)) (rot_sh' _), i1]
  obtain ⟨Q, hQ⟩ : ∃ Q : Unit → Mem → Prop, Q = (fun _ M' => fr [35, 36] M M' ∧ RoT M' (rot + 1) ∧ gI M' 35 0 = nI 6 ∧ gI M' 35 3 = gI M 35 3) := ⟨_, rfl⟩
  rw [← hQ]
  refine lpS (fun n k M1 => f_X3_dropOldest_L9 Z (38 + 6 * ((rot + 0) % 7)) (fun (M6 : Mem) => wrR M6 36 7 (6 : Int32) (38 + 6 * ((rot + 0) % 7)) (fun M7 => bd (sI M7 (35) 0 (6 : Int32)) (fun M8 => some ((), M8)))) n (nI k) M1) (fun z => OK z Q) (fun k M1 => fr [35, 36] M M1 ∧ gI M1 35 = gI M 35 ∧ ∀ j, j < 7 → gR M1 36 j = some (38 + 6 * ((if j + 1 < k then rot + 1 + j else rot + j) % 7))) 1 7 (by decide) (by omega) ⟨fr.rfl, rfl, fun j hj => ?_⟩ ?_ ?_
  · rw [if_neg (by omega)]
    exact h j hj
  · intro n k M1 h1 hk ⟨f1, g1, t1⟩ K
    have e1 := t1 k hk
    rw [if_neg (by omega)] at e1
    rw [f_X3_dropOldest_L9, i7, if_neg (by rw [nI_ile (by decide) (by omega)]; omega), rdR_n hk (by decide) e1 (rot_sh' _), i1, nI_sub h1, wrR_n (by omega) (by decide), nI_add]
    refine K _ ⟨fr_sR f1 (by decide), by rw [gI_sR']; exact g1, fun j hj => ?_⟩
    rw [gR_sR]
    by_cases c : j = k - 1
    · rw [if_pos ⟨rfl, c⟩, if_pos (by omega), show rot + 1 + j = rot + k by omega]
    · rw [if_neg (fun z => c z.2), t1 j hj]
      by_cases d : j + 1 < k
      · rw [if_pos d, if_pos (by omega)]
      · rw [if_neg d, if_neg (by omega)]
  · intro n M1 ⟨f1, g1, t1⟩
    rw [f_X3_dropOldest_L9, i7, if_pos (Int32.le_refl _), i6, wrR_n (by decide) (by decide), bd_eq, hQ]
    refine OK.ret ⟨fr_sI (fr_sR f1 (by decide)) (by decide), fun j hj => ?_, ?_, ?_⟩
    · rw [gR_sI', gR_sR]
      by_cases c : j = 6
      · rw [if_pos ⟨rfl, c⟩, c, show (rot + 1 + 6) % 7 = (rot + 0) % 7 by omega]
      · rw [if_neg (fun z => c z.2), t1 j hj, if_pos (by omega)]
    · rw [gI_sI, if_pos ⟨rfl, rfl⟩]
    · rw [gI_sI, if_neg (by decide), gI_sR', g1]
def shf (n : Nat) : Nat := if n = 7 then 1 else 0
theorem keep_ok {Z : Nat} (hZ : 20 < Z) {M : Mem} {rot n : Nat} (h : RoT M rot) (hn : gI M 35 0 = nI n) (h7 : n ≤ 7) : OK (f_X3_keep Z M) (fun _ M' => fr ([35, 36] ++ blk (38 + 6 * ((rot + n) % 7))) M M' ∧ RoT M' (rot + shf n) ∧ gI M' 35 0 = nI (n - shf n + 1) ∧ gI M' 35 3 = gI M 35 3 ∧ cpd M' (38 + 6 * ((rot + n) % 7)) M 10) := by
  unfold f_X3_keep
  have key : ∀ M1, fr [35, 36] M M1 → RoT M1 (rot + shf n) → gI M1 35 0 = nI (n - shf n) → gI M1 35 3 = gI M 35 3 → OK (bd (gI M1 (35) 0) (fun v3 => rdR M1 36 7 v3 SH (13, 9) (fun o4 => cl (f_X7_copyFrom Z M1 o4 (10)) (fun v5 M6 => bd (gI M6 (35) 0) (fun v7 => bd (sI M6 (35) 0 (v7 + (1 : Int32))) (fun M8 => some ((), M8))))))) (fun _ M' => fr ([35, 36] ++ blk (38 + 6 * ((rot + n) % 7))) M M' ∧ RoT M' (rot + shf n) ∧ gI M' 35 0 = nI (n - shf n + 1) ∧ gI M' 35 3 = gI M 35 3 ∧ cpd M' (38 + 6 * ((rot + n) % 7)) M 10) := by
    intro M1 f1 r1 g1 g2
    have hs : n - shf n < 7 := by unfold shf; split <;> omega
    have er := r1 (n - shf n) hs
    have e7 : (rot + shf n + (n - shf n)) % 7 = (rot + n) % 7 := by
      have : shf n ≤ n := by unfold shf; split <;> omega
      rw [show rot + shf n + (n - shf n) = rot + n by omega]
    rw [e7] at er
    have hlt : (rot + n) % 7 < 7 := Nat.mod_lt _ (by decide)
    rw [bd_eq, g1, rdR_n hs (by decide) er (rot_sh' _)]
    have hT : 38 ≤ 38 + 6 * ((rot + n) % 7) ∧ 38 + 6 * ((rot + n) % 7) ≤ 74 := by omega
    generalize 38 + 6 * ((rot + n) % 7) = T at hT ⊢
    obtain ⟨_, M2, e2, f2, c2⟩ := copyFrom_ok (Z := Z) (M := M1) (o := T) (o2 := 10) (Or.inr (by omega))
    have n35 : 35 ∉ blk T := fun z => by
      have := blk_in.mp z
      omega
    have n36 : 36 ∉ blk T := fun z => by
      have := blk_in.mp z
      omega
    have nn : ∀ i, i < 6 → 10 + i ∉ [35, 36] := by decide
    rw [e2, cl_some, bd_eq, f2.I n35, g1, bd_eq, i1, nI_add]
    refine OK.ret ⟨fr_sI ((f1.mono (fun o ho => List.mem_append_left _ ho)).trans (f2.mono (fun o ho => List.mem_append_right _ ho))) (List.mem_append_left _ (by decide)), ?_, ?_, ?_, ?_⟩
    · refine r1.to ?_
      rw [gR_sI', f2.R n36]
    · rw [gI_sI, if_pos ⟨rfl, rfl⟩]
    · rw [gI_sI, if_neg (by decide), f2.I n35, g2]
    · obtain ⟨b1, b2, b3, b4, b5, b6⟩ := c2
      have w : ∀ i, i < 6 → gI (sI M2 35 0 (nI (n - shf n + 1))) (T + i) = gI M2 (T + i) := fun i hi => by rw [gI_sI', if_neg (by omega)]
      have w0 : gI (sI M2 35 0 (nI (n - shf n + 1))) T = gI M2 T := w 0 (by decide)
      have m : ∀ i, i < 6 → gI M1 (10 + i) = gI M (10 + i) := fun i hi => f1.I (nn i hi)
      have m0 : gI M1 10 = gI M 10 := m 0 (by decide)
      refine ⟨fun k h1 h2 => ?_, fun k hk => ?_, fun k hk => ?_, fun k hk => ?_, fun k hk => ?_, fun k hk => ?_⟩
      · rw [w0, b1 k h1 h2, m0]
      · rw [w 1 (by decide), b2 k hk, m 1 (by decide)]
      · rw [w 2 (by decide), b3 k hk, m 2 (by decide)]
      · rw [w 3 (by decide), b4 k hk, m 3 (by decide)]
      · rw [w 4 (by decide), b5 k hk, m 4 (by decide)]
      · rw [w 5 (by decide), b6 k hk, m 5 (by decide)]
  rw [bd_eq, hn, jn_eq, i7]
  by_cases c : n = 7
  · rw [if_pos (by rw [c])]
    obtain ⟨_, M1, e1, f1, r1, g1, g2⟩ := dropOldest_ok (Z := Z) hZ h
    have hs : shf n = 1 := if_pos c
    rw [e1, cl_some]
    exact key M1 f1 (by rw [hs]; exact r1) (by rw [hs, c]; exact g1) g2
  · rw [if_neg (by rw [nI_eqx (by omega) (by decide)]; exact c)]
    have hs : shf n = 0 := if_neg c
    exact key M fr.rfl (by rw [hs]; exact h) (by rw [hs]; exact hn) rfl
/-- reference: rows of settings kept -/
theorem i54 : (54 : Int32) = nI 54 := by decide
theorem i378 : (378 : Int32) = nI 378 := by decide
theorem mc54 (a : Nat) : 54 * a = a * 54 := Nat.mul_comm 54 a
/-- all but these objects, and of 108 all but the number of changes, are as before -/
def f4 (l : List Nat) (M M' : Mem) : Prop := (∀ o, o ∉ l → o ≠ 108 → gI M' o = gI M o ∧ gL M' o = gL M o ∧ gR M' o = gR M o) ∧ (∀ k, k ≠ 4 → gI M' 108 k = gI M 108 k) ∧ gL M' 108 = gL M 108 ∧ gR M' 108 = gR M 108
