/-- all objects but these are as before; of the object 92 the references may be others -/
def fq (l : List Nat) (M M' : Mem) : Prop := ∀ o, o ∉ l → gI M' o = gI M o ∧ gL M' o = gL M o ∧ (o ≠ 92 → gR M' o = gR M o)
theorem fq.of {l : List Nat} {M M' : Mem} (h : fr l M M') : fq l M M' := fun o ho => ⟨(h o ho).1, (h o ho).2.1, fun _ => (h o ho).2.2⟩
theorem fq.trans {l : List Nat} {M M1 M2 : Mem} (h : fq l M M1) (h2 : fq l M1 M2) : fq l M M2 := fun o ho => ⟨(h2 o ho).1.trans (h o ho).1, (h2 o ho).2.1.trans (h o ho).2.1, fun c => ((h2 o ho).2.2 c).trans ((h o ho).2.2 c)⟩
theorem fq.I {l : List Nat} {M M1 : Mem} (h : fq l M M1) {o : Nat} (ho : o ∉ l) : gI M1 o = gI M o := (h o ho).1
theorem fq.L {l : List Nat} {M M1 : Mem} (h : fq l M M1) {o : Nat} (ho : o ∉ l) : gL M1 o = gL M o := (h o ho).2.1
theorem fq_sR {l : List Nat} {M M1 : Mem} {k : Nat} {v : Option Nat} (h : fq l M M1) : fq l M (sR M1 92 k v) := fun a ha => by
  rw [gI_sR', gL_sR']
  refine ⟨(h a ha).1, (h a ha).2.1, fun c => ?_⟩
  rw [← (h a ha).2.2 c]
  funext b
  rw [gR_sR, if_neg (fun z => c z.1)]
theorem fr.cov {l l2 : List Nat} {M M1 : Mem} (h : fr l M M1) (hl : ∀ o ∈ l, o ∈ l2) : fr l2 M M1 := h.mono hl
/-- the memory M' with the references that M has in the object 92 -/
def rs92 (M' M : Mem) : Mem := (M'.1, M'.2.1, fun o k => if o = 92 then M.2.2 o k else M'.2.2 o k)
theorem rs92_R {M' M : Mem} {o : Nat} (h : o ≠ 92) : gR (rs92 M' M) o = gR M' o := by
  funext k
  show (if o = 92 then _ else _) = _
  rw [if_neg h]
  rfl
theorem rs92_kp {l : List Nat} {M M' : Mem} (hf : fq l M M') (hl : ∀ o ∈ l, o ∈ scrL) : kp M (rs92 M' M) := by
  refine ⟨fun o h1 h2 => ?_, fun k _ => ?_⟩
  · have h3 : o ∉ l := fun z => h1 (hl o z)
    by_cases c : o = 92
    · subst c
      exact ⟨hf.I h3, hf.L h3, rfl⟩
    · rw [rs92_R c]
      exact ⟨hf.I h3, hf.L h3, (hf o h3).2.2 c⟩
  · exact congrFun (hf.I (fun z => absurd (hl 108 z) (by decide))) k
theorem Has.fq {l : List Nat} {M M' : Mem} (h : Has M) (hf : fq l M M') (hl : ∀ o ∈ l, o ∈ scrL) : Has M' := by
  have h2 := h.kp (rs92_kp hf hl)
  unfold Has at h2
  rw [rs92_R (show 36 ≠ 92 by decide)] at h2
  exact h2
theorem Inv.fq {l : List Nat} {M M' : Mem} (h : Inv M) (hf : fq l M M') (hl : ∀ o ∈ l, o ∈ scrL) {q r : Nat} (hh : HL M' q r) : Inv M' := by
  have h2 := h.kp (rs92_kp hf hl)
  obtain ⟨h1, h3, h4, h5, h6, h7⟩ := h2
  rw [rs92_R (show 37 ≠ 92 by decide)] at h5
  refine ⟨h1, h3, h4, h5, ⟨?_, h6.2⟩, ?_⟩
  · rcases hh with ⟨e1, e2, ⟨rfl, rfl⟩ | ⟨rfl, rfl⟩⟩
    · exact Or.inl ⟨e1, e2⟩
    · exact Or.inr ⟨e1, e2⟩
  · rcases h7 with g | g
    · unfold Hasnt at g
      rw [rs92_R (show 36 ≠ 92 by decide)] at g
      exact Or.inl g
    · unfold Has at g
      rw [rs92_R (show 36 ≠ 92 by decide)] at g
      exact Or.inr g
theorem Inv.hl {M : Mem} (h : Inv M) : ∃ q r, HL M q r := by
  rcases h.2.2.2.2.1.1 with ⟨e1, e2⟩ | ⟨e1, e2⟩
  · exact ⟨93, 94, e1, e2, Or.inl ⟨rfl, rfl⟩⟩
  · exact ⟨94, 93, e1, e2, Or.inr ⟨rfl, rfl⟩⟩
theorem HL.in9 {M : Mem} {q r : Nat} (h : HL M q r) : (∀ o ∈ [q], o ∈ [93, 94]) ∧ ∀ o ∈ [r], o ∈ [93, 94] := by
  rcases h.2.2 with ⟨rfl, rfl⟩ | ⟨rfl, rfl⟩
  · exact ⟨by decide, by decide⟩
  · exact ⟨by decide, by decide⟩
/-- the sum of a table's cells -/
theorem LT_sum {q : Nat} {M : Mem} {B : Nat → Nat → Nat} (h : LT q M B) : smL 2976 (fun c => gL M q c) = lN (sm 6 (fun x => sm 496 (B x))) := by
  have e : ∀ c, c < 2976 → gL M q c = lN (B (c / 496) (c % 496)) := fun c hc => by
    have h1 := h (c / 496) (by omega) (c % 496) (Nat.mod_lt _ (by decide))
    rw [show c / 496 * 496 + c % 496 = c by omega] at h1
    exact h1
  rw [smL_congr (G := fun c => lN (B (c / 496) (c % 496))) e, lN_smL, show 2976 = 6 * 496 from rfl, sm_block]
  refine congrArg lN (sm_congr (fun x _ => sm_congr (fun s hs => ?_)))
  rw [show (x * 496 + s) / 496 = x by omega, show (x * 496 + s) % 496 = s by omega]
/-- the chance to stay within a limit, times 1000 to the power of the horizon -/
def WV (P : Nat → Int32) (W : Nat → Nat) (b st lim H : Nat) : Nat := sm (cN P) (fun x => sm (lim + 1) (fun s => MS (cN P) (cM P) W (fun r => cA P r b) (cP P) st H x s))
theorem HT_sum {P : Nat → Int32} {W : Nat → Nat} {b st lim H : Nat} (hN : cN P ≤ 6) (hlim : lim < 496) : sm 6 (fun x => sm 496 (HT P W b st lim H x)) = WV P W b st lim H := by
  unfold WV
  rw [← sm_cut (n := cN P) (f := fun x => sm (lim + 1) (fun s => MS (cN P) (cM P) W (fun r => cA P r b) (cP P) st H x s)) 6 hN]
  refine sm_congr (fun x _ => ?_)
  by_cases c : x < cN P
  · rw [if_pos c, ← sm_cut (n := lim + 1) (f := fun s => MS (cN P) (cM P) W (fun r => cA P r b) (cP P) st H x s) 496 (by omega)]
    refine sm_congr (fun s _ => ?_)
    unfold HT
    by_cases d : s ≤ lim
    · rw [if_pos ⟨c, d⟩, if_pos (by omega)]
    · rw [if_neg (fun z => d z.2), if_neg (by omega)]
  · have e : ∀ s, s < 496 → HT P W b st lim H x s = 0 := fun s _ => if_neg (fun z => c z.1)
    rw [if_neg c, sm_congr (g := fun _ => 0) e, sm_zero]
theorem chanceWithin_ok {Z : Nat} {M : Mem} (hZ : 4000 < Z) (hI : Inv M) (h : Has M) {b : Nat} (hb : b < 3) :
    OK (f_X8_chanceWithin Z M (nI b)) (fun v M' => fq [93, 94] M M' ∧ (∃ q r, HL M' q r) ∧ v = lN (WV (gI M 112) (sW (gI M 109)) b (pn (gI M 109) 0) (min (pn (gI M 109) (40 + b)) 495) (pn (gI M 109) 1))) := by
  have hN := h.N
  have hz := h.hz
  have hst := h.st
  have hl9 := (h.VS.2.2.2.2.2.2.2.2.1 b hb).2
  have e13 : gI M 13 b = nI (pn (gI M 109) (40 + b)) := by
    rw [show (13 : Nat) = 10 + 3 from rfl, h.RS.2.2.2.1 b hb]
    exact (h.VS.2.2.2.2.2.2.2.2.1 b hb).1
  have elim : (if nI 495 < nI (pn (gI M 109) (40 + b)) then nI 495 else nI (pn (gI M 109) (40 + b))) = nI (min (pn (gI M 109) (40 + b)) 495) := by
    simp (disch := omega) only [nI_ilt]
    split
    · rw [show min (pn (gI M 109) (40 + b)) 495 = 495 by omega]
    · rw [show min (pn (gI M 109) (40 + b)) 495 = pn (gI M 109) (40 + b) by omega]
  generalize hlimE : min (pn (gI M 109) (40 + b)) 495 = lim at elim
  have hlim : lim < 496 := by omega
  obtain ⟨q, r, hl⟩ := hI.hl
  unfold f_X8_chanceWithin
  rw [rdI_n hb (by decide), e13, bd_eq, i495, elim, rfR_n hl.1 hl.sh.1]
  obtain ⟨_, M1, e1, f1, v1⟩ := fill_d_ok (Z := Z) (M := M) (a := q) (na := 2976) (v := 0) (by decide) (by omega)
  have ho := hl.out
  have h92q : 92 ∉ [q] := fun z => ho.2.1 (List.mem_singleton.mp z)
  have h10q : 10 ∉ [q] := fun z => (ho.1 10 (by decide)).1 (List.mem_singleton.mp z)
  have hl1 := hl.fr f1 h92q
  rw [e1, cl_some, rfR_n hl1.1 hl1.sh.1, bd_eq, f1.I h10q, hst.1, i496, nI_mul, wrL_n (by omega) (by decide), l1]
  obtain ⟨Q, hQ⟩ : ∃ Q : Int64 → Mem → Prop, Q = (fun v M' => fq [93, 94] M M' ∧ (∃ q r, HL M' q r) ∧ v = lN (WV (gI M 112) (sW (gI M 109)) b (pn (gI M 109) 0) lim (pn (gI M 109) 1))) := ⟨_, rfl⟩
  rw [← hQ, i0]
  generalize hkk : (fun (M27 : Mem) => f_X8_chanceWithin_L126 Z M27 Z (0 : Int64) (nI 0)) = kk
  refine lpS (fun n t M2 => f_X8_chanceWithin_L38 Z (nI b) (nI lim) kk n (nI t) M2) (fun z => OK z Q) (fun t M2 => fq [93, 94] M M2 ∧ ∃ q r, HL M2 q r ∧ LT q M2 (HT (gI M 112) (sW (gI M 109)) b (pn (gI M 109) 0) lim t)) 0 (pn (gI M 109) 1) (by omega) (by omega) ⟨fq.of (fr_sL (f1.mono hl.in9.1) (hl.in9.1 q List.mem_cons_self)), q, r, hl1.fr (fr_sL fr.rfl (List.mem_cons_self (l := []))) h92q, fun y hy s hs => ?_⟩ ?_ ?_
  · rw [gL_sL]
    unfold HT
    show _ = lN (if y < cN (gI M 112) ∧ s ≤ lim then (if y = pn (gI M 109) 0 ∧ s = 0 then 1 else 0) else 0)
    by_cases c : y = pn (gI M 109) 0 ∧ s = 0
    · rw [if_pos ⟨rfl, by omega⟩, if_pos (by omega), if_pos c]
    · rw [if_neg (by omega), v1 _ (by omega), if_neg c, l0]
      split <;> rfl
  · intro n t M2 _ ht ⟨f2, q, r, hl2, t2⟩ K
    have ho := hl2.out
    have hne := hl2.sh.2.2
    have h92r : 92 ∉ [r] := fun z => ho.2.2 (List.mem_singleton.mp z)
    have hq3 : ∀ o, o < 92 → o ∉ [r] := fun o h2 h3 => (ho.1 o h2).2 (List.mem_singleton.mp h3)
    have hq93 : ∀ o, o < 92 → o ∉ [93, 94] := fun o h2 h3 => by
      simp only [List.mem_cons, List.not_mem_nil, or_false] at h3
      omega
    have hqr : q ∉ [r] := fun h3 => hne (List.mem_singleton.mp h3)
    rw [f_X8_chanceWithin_L38, bd_eq, f2.I (hq93 10 (by decide)), hz.1]
    obtain ⟨_, M3, e3, f3, v3⟩ := fill_d_ok (Z := Z) (M := M2) (a := r) (na := 2976) (v := 0) (by decide) (by omega)
    have emo : (if nI t * nI 99 < nI lim then nI t * nI 99 else nI lim) = nI (min lim (t * 99)) := by
      simp (disch := omega) only [nI_mul, nI_ilt]
      split
      · rw [show min lim (t * 99) = t * 99 by omega]
      · rw [show min lim (t * 99) = lim by omega]
    generalize hmo : min lim (t * 99) = mo at emo
    simp (disch := omega) only [if_neg (show ¬ pn (gI M 109) 1 ≤ t by omega), nI_ile, rfR_n hl2.2.1 hl2.sh.2.1, e3, cl_some, i99, emo, bd_eq, i0, i1, nI_add]
    generalize hk2 : (fun (M21 : Mem) => rfR M21 92 1 SH (1, 2976) (fun o22 => rfR M21 92 2 SH (1, 2976) (fun o23 => f_X8_chanceWithin_L38 Z (nI b) (nI lim) kk n (nI (t + 1)) (sR (sR M21 92 1 (some o23)) 92 2 (some o22))))) = k2
    have hl3 := hl2.fr f3 h92r
    refine lpS (fun n i M4 => f_X8_chanceWithin_L69 Z (nI b) (nI lim) (nI t) (nI mo) k2 n (nI i) M4) (fun z => OK z Q) (fun i M4 => fr [r] M2 M4 ∧ LT r M4 (fun y s => if y < cN (gI M 112) then sm i (fun i => sm (cN (gI M 112)) (fun x => spa (cM (gI M 112)) (sW (gI M 109)) (fun r => cA (gI M 112) r b) (cP (gI M 112)) lim (HT (gI M 112) (sW (gI M 109)) b (pn (gI M 109) 0) lim t) i x (cM (gI M 112) x) y s)) else 0)) 0 (mo + 1) (by omega) (by omega) ⟨f3, fun y hy s hs => ?_⟩ ?_ ?_
    · rw [v3 _ (by omega), l0]
      dsimp only
      split <;> rfl
    · intro n2 i M4 _ hi ⟨f4, t4⟩ K2
      have f24 := f2.trans (fq.of (f4.mono hl2.in9.2))
      have hl4 := hl2.fr f4 h92r
      have h4 : ChC M4 (cN (gI M 112)) (cM (gI M 112)) (cP (gI M 112)) := by
        unfold ChC
        rw [f24.I (hq93 3 (by decide)), f24.I (hq93 4 (by decide)), f24.I (hq93 7 (by decide))]
        exact h.c
      obtain ⟨_, M5, e5, f5, t5⟩ := spendFrom_ok (Z := Z) (M := M4) h.2.1 h4 (fun r hr b hb => by rw [f24.I (hq93 6 (by decide))]; exact h.amts r hr b hb) (by omega) (W := sW (gI M 109)) (fun r hr => by rw [f24.I (hq93 11 (by decide))]; exact h.RS.w h.VS hN.2 r hr) (fun r => h.VS.2.2.2.2.1 r) hl4 hb (i := i) (lim := lim) (by omega) hlim (B := HT (gI M 112) (sW (gI M 109)) b (pn (gI M 109) 0) lim t) (t2.congr (f4.L hqr) (fun _ _ _ _ => rfl)) (fun x s => HT_le h.2.1 h.VS.W (by omega)) t4
      rw [f_X8_chanceWithin_L69]
      simp (disch := omega) only [if_neg (show ¬ mo < i by omega), nI_ilt, e5, cl_some, i1, nI_add]
      refine K2 M5 ⟨f4.trans f5, t5.congr rfl (fun y _ s _ => ?_)⟩
      by_cases c : y < cN (gI M 112)
      · rw [if_pos c, if_pos c, if_pos c]
        rfl
      · rw [if_neg c, if_neg c, if_neg c]
    · intro n2 M4 ⟨f4, t4⟩
      have hl4 := hl2.fr f4 h92r
      rw [f_X8_chanceWithin_L69]
      simp (disch := omega) only [if_pos (show mo < mo + 1 by omega), nI_ilt]
      rw [← hk2]
      dsimp only
      rw [rfR_n hl4.1 hl4.sh.1, rfR_n hl4.2.1 hl4.sh.2.1]
      refine K _ ⟨fq_sR (fq_sR (f2.trans (fq.of (f4.mono hl2.in9.2)))), r, q, ⟨?_, ?_, ?_⟩, ?_⟩
      · rw [gR_sR, if_neg (by decide), gR_sR, if_pos ⟨rfl, rfl⟩]
      · rw [gR_sR, if_pos ⟨rfl, rfl⟩]
      · rcases hl2.2.2 with ⟨e1, e2⟩ | ⟨e1, e2⟩
        · exact Or.inr ⟨e2, e1⟩
        · exact Or.inl ⟨e2, e1⟩
      · refine t4.congr rfl (fun y _ s _ => ?_)
        exact (HT_step h.2.1 hmo.symm).symm
  · intro n M2 ⟨f2, q, r, hl2, t2⟩
    have hq93 : ∀ o, o < 92 → o ∉ [93, 94] := fun o h2 h3 => by
      simp only [List.mem_cons, List.not_mem_nil, or_false] at h3
      omega
    rw [f_X8_chanceWithin_L38, bd_eq, f2.I (hq93 10 (by decide)), hz.1, if_pos (Int32.le_refl _), ← hkk]
    dsimp only
    have e9 := LT_sum t2
    rw [HT_sum hN.2 hlim] at e9
    rw [show (0 : Int64) = smL 0 (fun c => gL M2 q c) from rfl]
    refine lpS (σ := Unit) (fun n c _ => f_X8_chanceWithin_L126 Z M2 n (smL c (fun c => gL M2 q c)) (nI c)) (fun z => OK z Q) (fun _ _ => True) 0 2976 (s := ()) (by omega) (by omega) trivial ?_ ?_
    · intro n2 c _ _ hc _ K2
      rw [f_X8_chanceWithin_L126, rfR_n hl2.1 hl2.sh.1, rfR_n hl2.1 hl2.sh.1]
      simp (disch := omega) only [ofN, if_neg (show ¬ 2976 ≤ c by omega), nI_ile, rdL_n, i1, nI_add]
      exact K2 () trivial
    · intro n2 _ _
      rw [f_X8_chanceWithin_L126, rfR_n hl2.1 hl2.sh.1, ofN, if_pos (Int32.le_refl _), hQ, e9]
      exact OK.ret ⟨f2, ⟨q, r, hl2⟩, rfl⟩
theorem massOf_eq {Z : Nat} {M : Mem} {P : Nat → Int32} (hV : VP P) (hP : gI M 112 = P) (hZ : 20 < Z) {B : Nat → Nat → Nat} (hB : LT 117 M B) {s : Nat} (hs : s < 496) : f_X12_massOf Z M (nI s) = some (lN (sm (cN P) (fun x => B x s)), M) := by
  have hN := hV.2.1
  have hR := hV.chR hP
  unfold f_X12_massOf
  rw [← lN_smL, i0]
  refine lpS (σ := Unit) (fun n x _ => f_X12_massOf_L5 Z M (nI s) n (smL x (fun x => lN (B x s))) (nI x)) (fun z => z = some (smL (cN P) (fun x => lN (B x s)), M)) (fun _ _ => True) 0 (cN P) (s := ()) (by omega) (by omega) trivial ?_ ?_
  · intro n x _ _ hx _ K
    rw [f_X12_massOf_L5]
    simp (disch := omega) only [hR.1, if_neg (show ¬ cN P ≤ x by omega), nI_ile, i0, i1, i496, mc496, nI_mul, nI_add, rdI_n, rdL_n, hB x (by omega) s hs]
    exact K () trivial
  · intro n _ _
    rw [f_X12_massOf_L5]
    simp (disch := omega) only [hR.1, ge_self, if_true, i0, rdI_n]
theorem ok_within {Z : Nat} (hZ : 4000 < Z) {M : Mem} (hI : Inv M) (h : Has M) {b : Nat} (hb : b < cB (gI M 112)) : OKc (f_X11_within Z M (nI b)) (fun M => f_X12_within Z M (nI b)) (fun v => v) (fun v => v) := by
  have hN := h.N
  have hB := h.b.2.2
  have hz := h.hz
  have hl9 := (h.VS.2.2.2.2.2.2.2.2.1 b (by omega)).2
  obtain ⟨v, M1, e1, f1, ⟨q, r, hl⟩, hv⟩ := chanceWithin_ok hZ hI h (b := b) (by omega)
  have g1 : Inv (sL M1 124 0 v) := (hI.fq f1 (by decide) hl).kp out_kp
  have g2 : Has (sL M1 124 0 v) := (h.fq f1 (by decide)).out
  have j112 : gI (T0 (sL M1 124 0 v)) 112 = gI M 112 := by rw [T0_I (by decide), Has.s112, f1.I (by decide)]
  have j109 : gI (T0 (sL M1 124 0 v)) 109 = gI M 109 := by rw [T0_I (by decide), Has.s109, f1.I (by decide)]
  obtain ⟨_, M3, e3, r1, r2⟩ := laysMass_ok (Z := Z) (b := b) h.2.1 h.VS j112 j109 (by omega) (by omega)
  refine ⟨v, v, M1, M3, ?_, ?_, (g1.kp T0.kp).kp (kp.of r1 (by decide)), ?_, ?_⟩
  · unfold f_X11_within
    rw [h.nB, if_pos (inR_of hb (by omega)), clT_ok, e1, cl_some]
  · show f_X12_within Z (sL M1 124 0 v) (nI b) = _
    unfold f_X12_within
    have jl : gI M3 109 (40 + b) = nI (pn (gI M 109) (40 + b)) := by
      rw [r1.I (by decide), j109]
      exact (h.VS.2.2.2.2.2.2.2.2.1 b (by omega)).1
    rw [g2.rB, if_pos (by rw [Has.s112, f1.I (by decide)]; exact inR_of hb (by omega)), cl_some, if_pos rfl, e3, cl_some, hv]
    unfold WV
    rw [sm_swap, ← lN_smL, i0]
    generalize hlim : min (pn (gI M 109) (40 + b)) 495 = lim
    have eB : ∀ s, sm (cN (gI M 112)) (fun x => BT (gI M 112) (sW (gI M 109)) b (pn (gI M 109) 0) (pn (gI M 109) 1) x s) = sm (cN (gI M 112)) (fun x => MS (cN (gI M 112)) (cM (gI M 112)) (sW (gI M 109)) (fun r => cA (gI M 112) r b) (cP (gI M 112)) (pn (gI M 109) 0) (pn (gI M 109) 1) x s) := fun s => sm_congr (fun x hx => if_pos hx)
    refine lpS (σ := Unit) (fun n s _ => f_X12_within_L20 Z (nI b) n (smL s (fun s => lN (sm (cN (gI M 112)) (fun x => MS (cN (gI M 112)) (cM (gI M 112)) (sW (gI M 109)) (fun r => cA (gI M 112) r b) (cP (gI M 112)) (pn (gI M 109) 0) (pn (gI M 109) 1) x s)))) (nI s) M3) (fun z => z = some (smL (lim + 1) (fun s => lN (sm (cN (gI M 112)) (fun x => MS (cN (gI M 112)) (cM (gI M 112)) (sW (gI M 109)) (fun r => cA (gI M 112) r b) (cP (gI M 112)) (pn (gI M 109) 0) (pn (gI M 109) 1) x s))), M3)) (fun _ _ => True) 0 (lim + 1) (s := ()) (by omega) (by omega) trivial ?_ ?_
    · intro n s _ _ hs _ K
      have K1 := K () trivial
      rw [f_X12_within_L20]
      simp (disch := omega) only [i496, if_neg (show ¬ 496 ≤ s by omega), nI_ile, show (40 : Int32) = nI 40 from rfl, nI_add, rdI_n, jl, if_neg (show ¬ pn (gI M 109) (40 + b) < s by omega), nI_ilt, massOf_eq h.2.1 (show gI M3 112 = gI M 112 by rw [r1.I (by decide), j112]) (show 20 < Z by omega) r2 (show s < 496 by omega), eB, cl_some, i1]
      exact K1
    · intro n _ _
      rw [f_X12_within_L20]
      by_cases c : 496 ≤ lim + 1
      · simp (disch := omega) only [i496, if_pos c, nI_ile]
      · simp (disch := omega) only [i496, if_neg c, nI_ile, show (40 : Int32) = nI 40 from rfl, nI_add, rdI_n, jl, if_pos (show pn (gI M 109) (40 + b) < lim + 1 by omega), nI_ilt]
  · rw [r1.I (by decide)]
    exact T0_0
  · rw [r1.L (by decide), T0_L, gL_sL, if_pos ⟨rfl, rfl⟩]
theorem ck_within {Z : Nat} {M : Mem} (hZ : 4000 < Z) (hI : Inv M) (p1 : Int32) : CK (f_L_within Z M p1) (fun M => f_X12_within Z M p1) (fun v => v) := by
  unfold f_L_within
  rcases hI.2.2.2.2.2 with h | h
  · exact CK.er hI (e := 0) (c := 1) (w := 0) (by unfold f_X11_within; rw [needBudget0 h.2.1]; rfl) rfl (by decide) (by unfold f_X12_within; rw [noBudget0 h.1]; rfl)
  · by_cases hp : inR p1 (cB (gI M 112))
    · obtain ⟨b, hb, rfl⟩ := inR_nI hp
      exact CK.mk (cv := fun v => v) (ok_within hZ hI h hb)
    · exact CK.er hI (e := 1) (c := 2) (w := 0) (by unfold f_X11_within; rw [h.nB, if_neg hp]; rfl) rfl (by decide) (by unfold f_X12_within; rw [h.rB, if_neg hp]; rfl)
theorem b_law_27 {Z L a : Nat} {xs : Nat → Int32} {M : Mem} {j : Mem → Option Unit} (hZ : 4000 < Z) (hI : Inv M) (ha : a + 6 ≤ L) (hL : L ≤ 3072) (hj : ∀ M1, Inv M1 → j M1 = some ()) : f_law_27 Z L xs M (nI a) j = some () := by
  unfold f_law_27
  simp (disch := omega) only [i1, nI_add, rdX_n]
  generalize xs (a + 1) = p1
  exact (ck_within hZ hI p1).tail hj
