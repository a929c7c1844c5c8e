/-- all objects but these are as before; of the object 92 the references may be others -/
def fq (l : List Nat) (M M' : Mem) : Prop := ∀ o, o ∉ l → gI M' o = gI M o ∧ gL M' o = gL M o ∧ (o ≠ 92 → gR M' o = gR M o)
theorem fq.of {l : List Nat} {M M' : Mem} (h : fr l M M') : fq l M M' := fun o ho => ⟨(h o ho).1, (h o ho).2.1, fun _ => (h o ho).2.2⟩
theorem fq.trans {l : List Nat} {M M1 M2 : Mem} (h : fq l M M1) (h2 : fq l M1 M2) : fq l M M2 := fun o ho => ⟨(h2 o ho).1.trans (h o ho).1, (h2 o ho).2.1.trans (h o ho).2.1, fun c => ((h2 o ho).2.2 c).trans ((h o ho).2.2 c)⟩
theorem fq.I {l : List Nat} {M M1 : Mem} (h : fq l M M1) {o : Nat} (ho : o ∉ l) : gI M1 o = gI M o := (h o ho).1
theorem fq.L {l : List Nat} {M M1 : Mem} (h : fq l M M1) {o : Nat} (ho : o ∉ l) : gL M1 o = gL M o := (h o ho).2.1
theorem fq_sR {l : List Nat} {M M1 : Mem} {k : Nat} {v : Option Nat} (h : fq l M M1) : fq l M (sR M1 92 k v) := fun a ha => by
  rw [gI_sR', gL_sR']
  refine ⟨(h a ha).1, (h a ha).2.1, fun c => ?_⟩
  rw [← (h a ha).2.2 c]
  funext b
  rw [gR_sR, if_neg (fun z => c z.1)]
theorem fr.cov {l l2 : List Nat} {M M1 : Mem} (h : fr l M M1) (hl : ∀ o ∈ l, o ∈ l2) : fr l2 M M1 := h.mono hl
/-- the memory M' with the references that M has in the object 92 -/
def rs92 (M' M : Mem) : Mem := (M'.1, M'.2.1, fun o k => if o = 92 then M.2.2 o k else M'.2.2 o k)
theorem rs92_R {M' M : Mem} {o : Nat} (h : o ≠ 92) : gR (rs92 M' M) o = gR M' o := by
  funext k
  show (if o = 92 then _ else _) = _
  rw [if_neg h]
  rfl
theorem rs92_kp {l : List Nat} {M M' : Mem} (hf : fq l M M') (hl : ∀ o ∈ l, o ∈ scrL) : kp M (rs92 M' M) := by
  refine ⟨fun o h1 h2 => ?_, fun k _ => ?_⟩
  · have h3 : o ∉ l := fun z => h1 (hl o z)
    by_cases c : o = 92
    · subst c
      exact ⟨hf.I h3, hf.L h3, rfl⟩
    · rw [rs92_R c]
      exact ⟨hf.I h3, hf.L h3, (hf o h3).2.2 c⟩
  · exact congrFun (hf.I (fun z => absurd (hl 108 z) (by decide))) k
theorem Has.fq {l : List Nat} {M M' : Mem} (h : Has M) (hf : fq l M M') (hl : ∀ o ∈ l, o ∈ scrL) : Has M' := by
  have h2 := h.kp (rs92_kp hf hl)
  unfold Has at h2
  rw [rs92_R (show 36 ≠ 92 by decide)] at h2
  exact h2
theorem Inv.fq {l : List Nat} {M M' : Mem} (h : Inv M) (hf : fq l M M') (hl : ∀ o ∈ l, o ∈ scrL) {q r : Nat} (hh : HL M' q r) : Inv M' := by
  have h2 := h.kp (rs92_kp hf hl)
  obtain ⟨h1, h3, h4, h5, h6, h7⟩ := h2
  rw [rs92_R (show 37 ≠ 92 by decide)] at h5
  refine ⟨h1, h3, h4, h5, ⟨?_, h6.2⟩, ?_⟩
  · rcases hh with ⟨e1, e2, ⟨rfl, rfl⟩ | ⟨rfl, rfl⟩⟩
    · exact Or.inl ⟨e1, e2⟩
    · exact Or.inr ⟨e1, e2⟩
  · rcases h7 with g | g
    · unfold Hasnt at g
      rw [rs92_R (show 36 ≠ 92 by decide)] at g
      exact Or.inl g
    · unfold Has at g
      rw [rs92_R (show 36 ≠ 92 by decide)] at g
      exact Or.inr g
theorem Inv.hl {M : Mem} (h : Inv M) : ∃ q r, HL M q r := by
  rcases h.2.2.2.2.1.1 with ⟨e1, e2⟩ | ⟨e1, e2⟩
  · exact ⟨93, 94, e1, e2, Or.inl ⟨rfl, rfl⟩⟩
  · exact ⟨94, 93, e1, e2, Or.inr ⟨rfl, rfl⟩⟩
theorem HL.in9 {M : Mem} {q r : Nat} (h : HL M q r) : (∀ o ∈ [q], o ∈ [93, 94]) ∧ ∀ o ∈ [r], o ∈ [93, 94] := by
  rcases h.2.2 with ⟨rfl, rfl⟩ | ⟨rfl, rfl⟩
  · exact ⟨by decide, by decide⟩
  · exact ⟨by decide, by decide⟩
/-- the sum of a table's cells -/
theorem LT_sum {q : Nat} {M : Mem} {B : Nat → Nat → Nat} (h : LT q M B) : smL 2976 (fun c => gL M q c) = lN (sm 6 (fun x => sm 496 (B x))) := by
  have e : ∀ c, c < 2976 → gL M q c = lN (B (c / 496) (c % 496)) := fun c hc => by
    have h1 := h (c / 496) (by omega) (c % 496) (Nat.mod_lt _ (by decide))
    rw [show c / 496 * 496 + c % 496 = c by omega] at h1
    exact h1
  rw [smL_congr (G := fun c => lN (B (c / 496) (c % 496))) e, lN_smL, show 2976 = 6 * 496 from rfl, sm_block]
  refine congrArg lN (sm_congr (fun x _ => sm_congr (fun s hs => ?_)))
  rw [show (x * 496 + s) / 496 = x by omega, show (x * 496 + s) % 496 = s by omega]
/-- the chance to stay within a limit, times 1000 to the power of the horizon -/
def WV (P : Nat → Int32) (W : Nat → Nat) (b st lim H : Nat) : Nat := sm (cN P) (fun x => sm (lim + 1) (fun s => MS (cN P) (cM P) W (fun r => cA P r b) (cP P) st H x s))
theorem HT_sum {P : Nat → Int32} {W : Nat → Nat} {b st lim H : Nat} (hN : cN P ≤ 6) (hlim : lim < 496) : sm 6 (fun x => sm 496 (HT9 P W b st lim H x)) = WV P W b st lim H := by
  unfold WV
  rw [← sm_cut (n := cN P) (f := fun x => sm (lim + 1) (fun s => MS (cN P) (cM P) W (fun r => cA P r b) (cP P) st H x s)) 6 hN]
  refine sm_congr (fun x _ => ?_)
  by_cases c : x < cN P
  · rw [if_pos c, ← sm_cut (n := lim + 1) (f := fun s => MS (cN P) (cM P) W (fun r => cA P r b) (cP P) st H x s) 496 (by omega)]
    refine sm_congr (fun s _ => ?_)
    unfold HT9
    by_cases d : s ≤ lim
    · rw [if_pos ⟨c, d⟩, if_pos (by omega)]
    · rw [if_neg (fun z => d z.2), if_neg (by omega)]
  · have e : ∀ s, s < 496 → HT9 P W b st lim H x s = 0 := fun s _ => if_neg (fun z => c z.1)
    rw [if_neg c, sm_congr (g := fun _ => 0) e, sm_zero]
