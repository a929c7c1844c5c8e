/-! a state is named; the act line -/
def sOK (b : Nat → Nat) (n e : Nat) (Q : Nat → Int32) : Prop := tK b n e = 2 ∧ nOK (tV b n e) 0 (nI (cN Q) - 1)
theorem sOK.lt {b : Nat → Nat} {n e : Nat} {Q : Nat → Int32} (h : sOK b n e Q) (hN : cN Q ≤ 6) (hN1 : 1 ≤ cN Q) : tV b n e < cN Q := by
  have m1 : (nI (cN Q) - (1 : Int32)).toInt = (cN Q : Int) - 1 := ltopI (by omega)
  have := h.2.2
  omega
theorem seeStC {Z : Nat} {M : Mem} {b : Nat → Nat} {n e : Nat} {Q : Nat → Int32} (h : okC b n e M) (h0 : gI M 22 0 = nI (cN Q)) (hs : sOK b n e Q) : ∃ M', f_X4_seeState Z M = some (1, M') ∧ fP M M' ∧ gI M' 21 5 = nI (tV b n e) ∧ okC b n e M' := by
  obtain ⟨C2, k2, f2, g2, o2⟩ := seeC (Z := Z) h (lo := 0) (by decide) hs.1 hs.2
  unfold f_X4_seeState
  rw [bd_eq, h0, show f_X4_seeNumber Z M 0 (nI (cN Q) - 1) = some (1, C2) from k2, cl_some, if_pos (by decide)]
  exact ⟨C2, rfl, f2, g2, o2⟩
theorem seeStN {Z : Nat} {M : Mem} {b : Nat → Nat} {n e : Nat} {Q : Nat → Int32} (h : okC b n e M) (h0 : gI M 22 0 = nI (cN Q)) (hs : ¬ sOK b n e Q) : ∃ M', f_X4_seeState Z M = some (0, M') ∧ fr [21] M M' ∧ erC (if tK b n e = 2 then 2 else 1) (tA b n e) M' := by
  obtain ⟨C2, k2, f2, o2⟩ := seeN (Z := Z) h (lo := 0) (hi := nI (cN Q) - 1) (by decide) hs
  unfold f_X4_seeState
  rw [bd_eq, h0, show f_X4_seeNumber Z M 0 (nI (cN Q) - 1) = some (0, C2) from k2, cl_some, if_pos (by decide)]
  exact ⟨C2, rfl, f2, o2⟩
theorem stHereR {Z : Nat} {M : Mem} {b : Nat → Nat} {n e : Nat} {Q : Nat → Int32} (h : okR b n e Q M) (h0 : Q 0 = nI (cN Q)) (hs : sOK b n e Q) : f_X12_stateHere Z M = some (nI (tV b n e), M) := by
  unfold f_X12_stateHere
  rw [show (0 : Int32) = nI 0 from rfl, rdI_n (by decide) (by decide), h.2.2.2.1, h0, numR (Z := Z) h (lo := 0) (hi := nI (cN Q) - 1) (by decide) hs.1 hs.2, cl_some]
theorem stHereN {Z : Nat} {M : Mem} {b : Nat → Nat} {n e : Nat} {Q : Nat → Int32} (h : okR b n e Q M) (h0 : Q 0 = nI (cN Q)) (hs : ¬ sOK b n e Q) : ∃ M', f_X12_stateHere Z M = some (nI 0, M') ∧ fQ M M' ∧ erR (if tK b n e = 2 then 2 else 1) (tA b n e) M' := by
  obtain ⟨R2, q2, s2, t2⟩ := numN (Z := Z) h (lo := 0) (hi := nI (cN Q) - 1) (by decide) hs
  unfold f_X12_stateHere
  rw [show (0 : Int32) = nI 0 from rfl, rdI_n (by decide) (by decide), h.2.2.2.1, h0, q2, cl_some]
  exact ⟨R2, rfl, s2, t2⟩
def rEnd (Z : Nat) (v3 y35 : Int32) (M36 : Mem) : Option (Unit × Mem) := jn (fun (t37 : Int32) => cl (f_X12_endsAt Z M36 t37) (fun v38 M39 => rdI M39 113 344 ((8 : Int32) + v3) (fun v40 => bd (gI M39 (108) 19) (fun v41 => (if v41 = 0 then wrI M39 113 344 ((8 : Int32) + v3) (v40 + (1 : Int32)) (fun M43 => some ((), M43)) else wrI M39 113 344 ((8 : Int32) + v3) (v40 + (0 : Int32)) (fun M42 => some ((), M42))))))) (fun j45 => (if y35 = (100 : Int32) then j45 (1 : Int32) else j45 (0 : Int32)))
def rRest (Z : Nat) (v3 t10 : Int32) (M8 : Mem) : Option (Unit × Mem) := rdGain Z M8 ((14 : Int32) + (((3 : Int32) * v3) + t10)) (fun M18 => f_X12_actLine_L122 Z v3 t10 (fun (M26 : Mem) => f_X12_actLine_L142 Z v3 t10 (rEnd Z v3) Z (0 : Int32) M26) Z M18)
def rAct (Z : Nat) (v3 : Int32) (t6 : Mem) : Option (Unit × Mem) := cl (f_X12_goesOn Z t6) (fun v7 M8 => bd (gI M8 (108) 19) (fun v9 => jn (fun (t10 : Int32) => rRest Z v3 t10 M8) (fun j57 => (if v9 = 0 then rdI M8 113 344 ((8 : Int32) + v3) (fun v58 => j57 v58) else j57 (0 : Int32)))))
theorem actLine_eq {Z : Nat} {M : Mem} : f_X12_actLine Z M = cl (f_X12_goesOn Z M) (fun v1 M2 => cl (f_X12_stateHere Z M2) (fun v3 M4 => bd (gI M4 (108) 19) (fun v5 => jn (fun (t6 : Mem) => rAct Z v3 t6) (fun j60 => (if v5 = 0 then rdI M4 113 344 ((8 : Int32) + v3) (fun v61 => (if v61 = (3 : Int32) then cl (f_X12_fails Z M4 (4 : Int32)) (fun v62 M63 => j60 M63) else j60 M4)) else j60 M4))))) := rfl
theorem rEndE {Z : Nat} {M : Mem} {c p x : Nat} {w : Int32} (h : erR c p M) (hx : x < 6) : ∃ M', rEnd Z (nI x) w M = some ((), M') ∧ fQ M M' ∧ erR c p M' := by
  refine ⟨sI M 113 (8 + x) (gI M 113 (8 + x) + 0), ?_, fQ.rfl.w, h.w⟩
  have fin : ∀ t, cl (f_X12_endsAt Z M t) (fun v38 M39 => rdI M39 113 344 ((8 : Int32) + nI x) (fun v40 => bd (gI M39 (108) 19) (fun v41 => (if v41 = 0 then wrI M39 113 344 ((8 : Int32) + nI x) (v40 + (1 : Int32)) (fun M43 => some ((), M43)) else wrI M39 113 344 ((8 : Int32) + nI x) (v40 + (0 : Int32)) (fun M42 => some ((), M42)))))) = some ((), sI M 113 (8 + x) (gI M 113 (8 + x) + 0)) := fun t => by
    rw [endsE h, cl_some, show (8 : Int32) = nI 8 from rfl, nI_add, rdI_n (by omega) (by decide), bd_eq, if_neg (er_ne h), wrI_n (by omega) (by decide)]
  unfold rEnd
  rw [jn_eq]
  by_cases d : w = (100 : Int32)
  · rw [if_pos d]
    exact fin 1
  · rw [if_neg d]
    exact fin 0
theorem rRestE {Z : Nat} {M : Mem} {c p x : Nat} {t : Int32} (hZ : 4000 < Z) (h : erR c p M) (hx : x < 6) : ∃ M', rRest Z (nI x) t M = some ((), M') ∧ fQ M M' ∧ erR c p M' := by
  obtain ⟨M', e1, f1, o1⟩ := rEndE (Z := Z) (w := 0) h hx
  obtain ⟨z, rfl⟩ : ∃ z, Z = z + 1 := ⟨Z - 1, by omega⟩
  unfold rRest
  rw [gainRE h, f_X12_actLine_L122, passesE h, cl_some, if_pos rfl, f_X12_actLine_L142, passesE h, cl_some, if_pos rfl]
  exact ⟨M', e1, f1, o1⟩
theorem rActE {Z : Nat} {M : Mem} {c p x : Nat} (hZ : 4000 < Z) (h : erR c p M) (hx : x < 6) : ∃ M', rAct Z (nI x) M = some ((), M') ∧ fQ M M' ∧ erR c p M' := by
  obtain ⟨M', e1, f1, o1⟩ := rRestE (t := 0) hZ h hx
  unfold rAct
  rw [goesOnE h, cl_some, bd_eq, jn_eq, if_neg (er_ne h)]
  exact ⟨M', e1, f1, o1⟩
/-! rows at the end of a line -/
def ZR (Q : Nat → Int32) (r : Nat) : Prop := cT Q r = 0 ∧ (∀ b, b < 3 → pn Q (32 + (r * 3 + b)) = 0) ∧ ∀ y, cP Q r y = 0
def RowsOK (Q : Nat → Int32) : Prop := ∀ x, x < 6 → ∀ a, a < 3 → (a < cM Q x → AP Q (x * 3 + a) 100) ∧ (cM Q x ≤ a → ZR Q (x * 3 + a))
def RuleOK (Q : Nat → Int32) (x : Nat) : Prop := (Q (320 + x) = nI 1 ∧ pn Q (326 + (x * 3 + 0)) + pn Q (326 + (x * 3 + 1)) + pn Q (326 + (x * 3 + 2)) = 10 ∧ ∀ a, a < 3 → cM Q x ≤ a → pn Q (326 + (x * 3 + a)) = 0) ∨ (Q (320 + x) = nI 0 ∧ ∀ a, a < 3 → pn Q (326 + (x * 3 + a)) = 0)
def VQ (Q : Nat → Int32) : Prop := VW Q ∧ (1 ≤ cN Q ∧ pn Q 2 < cN Q ∧ 1 ≤ pn Q 3) ∧ RowsOK Q ∧ ∀ x, x < 6 → RuleOK Q x
theorem row_eq {Q Q' : Nat → Int32} {r : Nat} (h : ∀ i, (86 + r * 6 ≤ i ∧ i < 92 + r * 6) ∨ (212 + r * 6 ≤ i ∧ i < 218 + r * 6) ∨ i = 194 + r → Q' i = Q i) : cP Q' r = cP Q r ∧ cO Q' r = cO Q r ∧ cT Q' r = cT Q r := by
  refine ⟨funext fun y => ?_, funext fun k => ?_, ?_⟩
  · unfold cP
    by_cases c : r < 18 ∧ y < 6
    · rw [if_pos c, if_pos c]
      exact pn_c (h _ (by omega))
    · rw [if_neg c, if_neg c]
  · unfold cO
    by_cases c : r < 18 ∧ k < 6
    · rw [if_pos c, if_pos c]
      exact pn_c (h _ (by omega))
    · rw [if_neg c, if_neg c]
  · unfold cT
    by_cases c : r < 18
    · rw [if_pos c, if_pos c]
      exact pn_c (h _ (by omega))
    · rw [if_neg c, if_neg c]
theorem AP.of {Q Q' : Nat → Int32} {r S : Nat} (h : AP Q r S) (h0 : Q' 0 = Q 0) (he : ∀ i, (86 + r * 6 ≤ i ∧ i < 92 + r * 6) ∨ (212 + r * 6 ≤ i ∧ i < 218 + r * 6) ∨ i = 194 + r → Q' i = Q i) : AP Q' r S := by
  obtain ⟨e1, e2, e3⟩ := row_eq he
  have e0 : cN Q' = cN Q := pn_c h0
  unfold AP
  rw [e1, e2, e3, e0]
  exact h
theorem ZR.of {Q Q' : Nat → Int32} {r : Nat} (h : ZR Q r) (he : ∀ i, (86 + r * 6 ≤ i ∧ i < 92 + r * 6) ∨ (212 + r * 6 ≤ i ∧ i < 218 + r * 6) ∨ i = 194 + r → Q' i = Q i) (hu : ∀ i, 32 + r * 3 ≤ i ∧ i < 35 + r * 3 → Q' i = Q i) : ZR Q' r := by
  obtain ⟨e1, e2, e3⟩ := row_eq he
  unfold ZR
  rw [e1, e3]
  exact ⟨h.1, fun b hb => (pn_c (hu _ (by omega))).trans (h.2.1 b hb), h.2.2⟩
theorem ZR.ap {Q : Nat → Int32} {r : Nat} (h : ZR Q r) : AP Q r 0 := by
  have e : cP Q r = fun _ => 0 := funext h.2.2
  unfold AP
  rw [h.1, e, sm_zero]
  exact ⟨rfl, cz_zero 6 (fun _ _ => rfl), fun k hk => absurd hk (by omega), rfl⟩
theorem gV_b {b : Nat → Nat} {n e : Nat} (h : gOK b n e) : -999 ≤ (gV b n e).toInt ∧ (gV b n e).toInt ≤ 999 := by
  have e9 : (999 : Int32).toInt = 999 := by decide
  have h2 := h.2.2
  rw [e9] at h2
  unfold gV
  split
  · rw [Int32.toInt_neg, nI_toInt (by omega), Int.bmod_eq_of_le (by omega) (by omega)]
    omega
  · rw [nI_toInt (by omega)]
    omega
