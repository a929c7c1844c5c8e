/-! the class's parser stands at a known rest of the text -/
def AtT (b : Nat → Nat) (n : Nat) (t : List Nat) (M : Mem) : Prop := ∃ e, okC b n e M ∧ Tq b n e t
theorem AtT.fr {b : Nat → Nat} {n : Nat} {t : List Nat} {M M' : Mem} {l : List Nat} (h : AtT b n t M) (hf : fr l M M') (h1 : 1 ∉ l) (h2 : 2 ∉ l) : AtT b n t M' := by
  obtain ⟨e, h3, h4⟩ := h
  exact ⟨e, h3.fr hf h1 h2, h4⟩
theorem AtT.s {b : Nat → Nat} {n o k : Nat} {v : Int32} {t : List Nat} {M : Mem} (h : AtT b n t M) (h1 : o ≠ 1) (h2 : o ≠ 2) : AtT b n t (sI M o k v) := by
  obtain ⟨e, h3, h4⟩ := h
  exact ⟨e, h3.s h1 h2, h4⟩
theorem wordA {Z : Nat} {M : Mem} {b : Nat → Nat} {n i k : Nat} {t : List Nat} (hZ : 4000 < Z) (h : AtT b n (sp i ++ (wL k ++ t)) M) (hk : k < 10) (ht : isL (t.headD 0) = false) : ∃ M', f_X4_takeWord Z M k = some (1, M') ∧ fP M M' ∧ AtT b n t M' := by
  obtain ⟨e, h1, h2⟩ := h
  obtain ⟨w1, w2, w3⟩ := wL_all k hk
  obtain ⟨M', e1, f1, o1⟩ := takeWordC hZ h1 hk (by rw [isW_W h2 hk hk ht]; exact decide_eq_true rfl)
  exact ⟨M', e1, f1, _, o1, (tW h2 w1 w2 w3 ht).2.2.2.1⟩
theorem isA {Z : Nat} {M : Mem} {b : Nat → Nat} {n i k l : Nat} {t : List Nat} (hZ : 4000 < Z) (h : AtT b n (sp i ++ (wL k ++ t)) M) (hk : k < 10) (hl : l < 10) (ht : isL (t.headD 0) = false) : f_X2_isWord Z M l = some (bN (decide (k = l)), M) := by
  obtain ⟨e, h1, h2⟩ := h
  rw [isWordC hZ h1.1 h1.2.1 h1.2.2 hl, isW_W h2 hk hl ht]
/-- what follows a line -/
def EL (t : List Nat) : Prop := t = [] ∨ ∃ t', t = 59 :: t'
theorem EL.kind {b : Nat → Nat} {n e : Nat} {t : List Nat} (h : EL t) (hT : Tq b n e t) : tK b n e = 4 ∨ tK b n e = 0 := by
  rcases h with h | ⟨t', h⟩
  · subst h
    exact .inr (tZ hT)
  · subst h
    exact .inl (tC (i := 0) hT (.inr rfl)).1
theorem EL.hd {t : List Nat} (h : EL t) : isL (t.headD 0) = false ∧ isD (t.headD 0) = false := by
  rcases h with h | ⟨t', h⟩ <;> subst h <;> exact ⟨rfl, rfl⟩
theorem isE {Z : Nat} {M : Mem} {b : Nat → Nat} {n l : Nat} {t : List Nat} (hZ : 4000 < Z) (h : AtT b n t M) (hl : l < 10) (ht : EL t) : f_X2_isWord Z M l = some (bN false, M) := by
  obtain ⟨e, h1, h2⟩ := h
  rw [isWordC hZ h1.1 h1.2.1 h1.2.2 hl, isW_no (by have := ht.kind h2; omega)]
theorem advW {Z : Nat} {M : Mem} {b : Nat → Nat} {n i k : Nat} {t : List Nat} (hZ : 4000 < Z) (h : AtT b n (sp i ++ (wL k ++ t)) M) (hk : k < 10) (ht : isL (t.headD 0) = false) : ∃ M', f_X2_advance Z M = some ((), M') ∧ fP M M' ∧ gI M' 21 = gI M 21 ∧ AtT b n t M' := by
  obtain ⟨e, h1, h2⟩ := h
  obtain ⟨w1, w2, w3⟩ := wL_all k hk
  obtain ⟨M', e1, f1, g1, o1⟩ := nextC hZ h1
  exact ⟨M', e1, f1, g1, _, o1, (tW h2 w1 w2 w3 ht).2.2.2.1⟩
theorem advN {Z : Nat} {M : Mem} {b : Nat → Nat} {n i v : Nat} {t : List Nat} (hZ : 4000 < Z) (h : AtT b n (sp i ++ (dgs v ++ t)) M) (hv : v < 100000) (ht : isD (t.headD 0) = false) : ∃ M', f_X2_advance Z M = some ((), M') ∧ fP M M' ∧ gI M' 21 = gI M 21 ∧ AtT b n t M' := by
  obtain ⟨e, h1, h2⟩ := h
  obtain ⟨M', e1, f1, g1, o1⟩ := nextC hZ h1
  exact ⟨M', e1, f1, g1, _, o1, (tN h2 hv ht).2.2.2.2⟩
theorem advS {Z : Nat} {M : Mem} {b : Nat → Nat} {n : Nat} {t : List Nat} (hZ : 4000 < Z) (h : AtT b n (59 :: t) M) : gI M 1 3 = nI 4 ∧ ∃ M', f_X2_advance Z M = some ((), M') ∧ fP M M' ∧ gI M' 21 = gI M 21 ∧ AtT b n t M' := by
  obtain ⟨e, h1, h2⟩ := h
  obtain ⟨M', e1, f1, g1, o1⟩ := nextC hZ h1
  obtain ⟨k1, k2, k3⟩ := tC (i := 0) h2 (.inr rfl)
  refine ⟨by rw [h1.2.1.1, k1]; rfl, M', e1, f1, g1, _, o1, ?_⟩
  rw [k2]
  exact k3
theorem seeA {Z : Nat} {M : Mem} {b : Nat → Nat} {n i v lo : Nat} {hi : Int32} {t : List Nat} (h : AtT b n (sp i ++ (dgs v ++ t)) M) (hv : v < 100000) (ht : isD (t.headD 0) = false) (hlo : lo < 1000) (hb : nOK v lo hi) : ∃ M', f_X4_seeNumber Z M (nI lo) hi = some (1, M') ∧ fP M M' ∧ gI M' 21 5 = nI v ∧ AtT b n (sp i ++ (dgs v ++ t)) M' := by
  obtain ⟨e, h1, h2⟩ := h
  obtain ⟨k1, -, -, k4, -⟩ := tN h2 hv ht
  obtain ⟨M', e1, f1, g1, o1⟩ := seeC (Z := Z) h1 hlo k1 (by rw [k4]; exact hb)
  exact ⟨M', e1, f1, by rw [g1, k4], e, o1, h2⟩
theorem numA {Z : Nat} {M : Mem} {b : Nat → Nat} {n i v lo : Nat} {hi : Int32} {t : List Nat} (hZ : 4000 < Z) (h : AtT b n (sp i ++ (dgs v ++ t)) M) (hv : v < 100000) (ht : isD (t.headD 0) = false) (hlo : lo < 1000) (hb : nOK v lo hi) : ∃ M', f_X4_takeNumber Z M (nI lo) hi = some (1, M') ∧ fP M M' ∧ gI M' 21 5 = nI v ∧ AtT b n t M' := by
  obtain ⟨e, h1, h2⟩ := h
  obtain ⟨k1, -, -, k4, k5⟩ := tN h2 hv ht
  obtain ⟨M', e1, f1, g1, o1⟩ := takeC hZ h1 hlo k1 (by rw [k4]; exact hb)
  exact ⟨M', e1, f1, by rw [g1, k4], _, o1, k5⟩
theorem kindN {M : Mem} {b : Nat → Nat} {n i v : Nat} {t : List Nat} (h : AtT b n (sp i ++ (dgs v ++ t)) M) (hv : v < 100000) (ht : isD (t.headD 0) = false) : gI M 1 3 = nI 2 := by
  obtain ⟨e, h1, h2⟩ := h
  rw [h1.2.1.1, (tN h2 hv ht).1]
theorem kindE {M : Mem} {b : Nat → Nat} {n : Nat} {t : List Nat} (h : AtT b n t M) (ht : EL t) : ∃ k, gI M 1 3 = nI k ∧ (k = 4 ∨ k = 0) ∧ (t = [] → k = 0) := by
  obtain ⟨e, h1, h2⟩ := h
  refine ⟨_, h1.2.1.1, ht.kind h2, fun z => ?_⟩
  subst z
  exact tZ h2
theorem endA {Z : Nat} {M : Mem} {b : Nat → Nat} {n : Nat} {t : List Nat} (h : AtT b n t M) (ht : EL t) : f_X4_endLine Z M (nI 0) = some (1, M) := by
  obtain ⟨e, h1, h2⟩ := h
  exact endC h1 (ht.kind h2)
theorem stAt {Z : Nat} {M : Mem} {b : Nat → Nat} {n i v : Nat} {t : List Nat} {Q : Nat → Int32} (h : AtT b n (sp i ++ (dgs v ++ t)) M) (h0 : gI M 22 0 = nI (cN Q)) (hN : cN Q ≤ 6) (hv : v < cN Q) (ht : isD (t.headD 0) = false) : ∃ M', f_X4_seeState Z M = some (1, M') ∧ fP M M' ∧ gI M' 21 5 = nI v ∧ AtT b n (sp i ++ (dgs v ++ t)) M' := by
  obtain ⟨e, h1, h2⟩ := h
  obtain ⟨k1, -, -, k4, -⟩ := tN h2 (by omega) ht
  have m1 : (nI (cN Q) - (1 : Int32)).toInt = (cN Q : Int) - 1 := ltopI (by omega)
  obtain ⟨M', e1, f1, g1, o1⟩ := seeStC (Z := Z) (Q := Q) h1 h0 ⟨k1, by rw [k4]; exact ⟨Nat.zero_le _, by omega⟩⟩
  exact ⟨M', e1, f1, by rw [g1, k4], e, o1, h2⟩
/-! the head -/
theorem WL10 : WL.getD 10 [] = sp 0 ++ (wL 0 ++ (sp 1 ++ (wL 1 ++ [32]))) := by decide
theorem WL11 : WL.getD 11 [] = sp 1 ++ (wL 2 ++ [32]) := by decide
theorem WL12 : WL.getD 12 [] = sp 1 ++ (wL 3 ++ [32]) := by decide
theorem WL13 : WL.getD 13 [] = 59 :: (sp 0 ++ (wL 4 ++ [32])) := by decide
theorem WL14 : WL.getD 14 [] = 59 :: (sp 0 ++ (wL 5 ++ [32])) := by decide
theorem WL15 : WL.getD 15 [] = sp 1 ++ [45] := by decide
theorem WL16 : WL.getD 16 [] = sp 1 := by decide
theorem WL17 : WL.getD 17 [] = sp 1 ++ (wL 6 ++ [32]) := by decide
theorem WL18 : WL.getD 18 [] = sp 1 ++ (wL 7 ++ [32]) := by decide
theorem WL19 : WL.getD 19 [] = 59 :: (sp 0 ++ (wL 8 ++ [32])) := by decide
theorem WL20 : WL.getD 20 [] = 59 :: (sp 0 ++ (wL 9 ++ [32])) := by decide
theorem hd_sp1 {t : List Nat} : isL ((sp 1 ++ t).headD 0) = false ∧ isD ((sp 1 ++ t).headD 0) = false := ⟨rfl, rfl⟩
theorem app32 {t : List Nat} : [32] ++ t = sp 1 ++ t := rfl
theorem headA {Z : Nat} {M : Mem} {b : Nat → Nat} {n N H s : Nat} {t : List Nat} {Q : Nat → Int32} (hZ : 4000 < Z) (ht : EL t) (hN : 1 ≤ N ∧ N ≤ 6) (hH : 1 ≤ H ∧ H ≤ 5) (hs : s ≤ 30010) (h : AtT b n (WL.getD 10 [] ++ dgs N ++ WL.getD 11 [] ++ dgs H ++ WL.getD 12 [] ++ dgs s ++ t) M) (hq : CQ0 Q M) (hw : CQW Q M) (hQ : ∀ i, i < 344 → Q i = nI 0) : ∃ M' Q', f_X4_parseHead Z M = some (1, M') ∧ fr lP M M' ∧ AtT b n t M' ∧ CQ0 Q' M' ∧ CQW Q' M' ∧ VQ Q' ∧ Q' = upd (upd (upd Q 0 (nI N)) 3 (nI H)) 4 (nI s) := by
  have hW := VW.zero hQ
  rw [WL10, WL11, WL12] at h
  simp only [List.append_assoc] at h
  unfold f_X4_parseHead
  obtain ⟨M1, e1, f1, h1⟩ := wordA hZ h (by decide) hd_sp1.1
  rw [e1, cl_some, if_neg (by decide)]
  obtain ⟨M2, e2, f2, h2⟩ := wordA hZ h1 (by decide) (by rfl)
  rw [e2, cl_some, if_neg (by decide)]
  obtain ⟨M3, e3, f3, g3, h3⟩ := numA (i := 1) (lo := 1) (hi := 6) hZ h2 (by omega) hd_sp1.2 (by decide) ⟨hN.1, by show (N : Int) ≤ 6; omega⟩
  rw [show f_X4_takeNumber Z M2 (1 : Int32) (6 : Int32) = some (1, M3) from e3, cl_some, if_neg (by decide), bd_eq, g3, bd_eq]
  have q3 := ((hq.fP f1).fP f2).fP f3
  have w3 := ((hw.fP f1).fP f2).fP f3
  have q4 := q3.upd01 (j := 0) (v := nI N) hW.T (by decide)
  have w4 : CQW (upd Q 0 (nI N)) (sI M3 22 0 (nI N)) := w3.updL (by decide) (by funext k; rw [gI_sI, if_neg (fun z => absurd z.1 (by decide))])
  have W4 : VW (upd Q 0 (nI N)) := hW.put (by decide) (by show N ≤ 6; omega)
  have h4 := h3.s (o := 22) (k := 0) (v := nI N) (by decide) (by decide)
  have f4 : fr lP M (sI M3 22 0 (nI N)) := fr_sI ((f1.p.trans f2.p).trans f3.p) (by decide)
  generalize sI M3 22 0 (nI N) = M4 at *
  obtain ⟨M5, e5, f5, h5⟩ := wordA hZ h4 (by decide) (by rfl)
  rw [e5, cl_some, if_neg (by decide)]
  obtain ⟨M6, e6, f6, g6, h6⟩ := numA (i := 1) (lo := 1) (hi := 5) hZ h5 (by omega) hd_sp1.2 (by decide) ⟨hH.1, by show (H : Int) ≤ 5; omega⟩
  rw [show f_X4_takeNumber Z M5 (1 : Int32) (5 : Int32) = some (1, M6) from e6, cl_some, if_neg (by decide), bd_eq, g6, bd_eq]
  have q7 := ((q4.fP f5).fP f6).updS (j := 3) (v := nI H) W4.T (by decide)
  have w7 : CQW (upd (upd Q 0 (nI N)) 3 (nI H)) (sI M6 29 4 (nI H)) := ((w4.fP f5).fP f6).updL (by decide) (by funext k; rw [gI_sI, if_neg (fun z => absurd z.1 (by decide))])
  have W7 : VW (upd (upd Q 0 (nI N)) 3 (nI H)) := W4.put (by decide) (by show H ≤ 5; omega)
  have h7 := h6.s (o := 29) (k := 4) (v := nI H) (by decide) (by decide)
  have f7 : fr lP M (sI M6 29 4 (nI H)) := fr_sI ((f4.trans f5.p).trans f6.p) (by decide)
  generalize sI M6 29 4 (nI H) = M7 at *
  obtain ⟨M8, e8, f8, h8⟩ := wordA hZ h7 (by decide) (by rfl)
  rw [e8, cl_some, if_neg (by decide)]
  obtain ⟨M9, e9, f9, g9, h9⟩ := numA (i := 1) (lo := 0) (hi := 30010) hZ h8 (by omega) ht.hd.2 (by decide) ⟨Nat.zero_le _, by show (s : Int) ≤ 30010; omega⟩
  rw [show f_X4_takeNumber Z M8 (0 : Int32) (30010 : Int32) = some (1, M9) from e9, cl_some, if_neg (by decide), bd_eq, g9, bd_eq]
  have q10 := ((q7.fP f8).fP f9).updS (j := 4) (v := nI s) W7.T (by decide)
  have w10 : CQW (upd (upd (upd Q 0 (nI N)) 3 (nI H)) 4 (nI s)) (sI M9 29 5 (nI s)) := ((w7.fP f8).fP f9).updL (by decide) (by funext k; rw [gI_sI, if_neg (fun z => absurd z.1 (by decide))])
  have W10 : VW (upd (upd (upd Q 0 (nI N)) 3 (nI H)) 4 (nI s)) := W7.put (by decide) (by show s ≤ 30010; omega)
  refine ⟨_, _, rfl, fr_sI ((f7.trans f8.p).trans f9.p) (by decide), h9.s (by decide) (by decide), q10, w10, VQ.head (N := N) (H := H) hQ W10 (fun i a1 a2 a3 => by rw [upd_ne a3, upd_ne a2, upd_ne a1]) ?_ hN ?_ hH, rfl⟩
  · rw [upd_ne (by decide), upd_ne (by decide), upd_eq]
  · rw [upd_ne (by decide), upd_eq]
