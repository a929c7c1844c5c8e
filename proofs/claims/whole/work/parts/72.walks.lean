/-! what the reference tries and takes back -/
def kt (M M' : Mem) : Prop := (∀ o, o ∉ scrL → o ≠ 108 → o ∉ [96, 97, 98, 109, 110] → gI M' o = gI M o ∧ gL M' o = gL M o ∧ gR M' o = gR M o) ∧ (∀ k, k = 1 ∨ k = 4 ∨ k = 9 ∨ k = 10 ∨ k = 11 ∨ k = 31 → gI M' 108 k = gI M 108 k) ∧ (∀ i, i < 54 → gI M' 109 i = gI M 109 i) ∧ ∀ j, 54 ≤ j → gI M' 110 j = gI M 110 j
theorem now_t : ∀ i, i < 6 → 10 + i ∉ [96, 97, 98, 109, 110] := by decide
theorem rot_t : ∀ j, j < 7 → ∀ i, i < 6 → 38 + 6 * j + i ∉ [96, 97, 98, 109, 110] := by decide
theorem slot_t : ∀ j, j < 2 → ∀ i, i < 6 → 80 + 6 * j + i ∉ [96, 97, 98, 109, 110] := by decide
theorem hasKt {M M' : Mem} (h : Has M) (hk : kt M M') (hc : Cache (gI M 112) M') : Has M' := by
  have hN := h.N
  have hz := h.z
  obtain ⟨h1, h2, h3, h4, h5, h6, ⟨rot, r1, r2, r3⟩, ⟨q, q1, q2, q3⟩, h9⟩ := h
  obtain ⟨k1, k2, k3, k5⟩ := hk
  have e112 := (k1 112 (by decide) (by decide) (by decide)).1
  have e35 := (k1 35 (by decide) (by decide) (by decide)).1
  have e111 := (k1 111 (by decide) (by decide) (by decide)).1
  have e36 := (k1 36 (by decide) (by decide) (by decide)).2.2
  have k4 := k2 4 (by decide)
  have p4 : pn (gI M' 108) 4 = pn (gI M 108) 4 := by unfold pn; rw [k4]
  refine ⟨by rw [k2 1 (by decide)]; exact h1, by rw [e112]; exact h2, ?_, by rw [e112]; exact h4.congr hN.2 hz.2.1 k3, by rw [e112]; exact (h5.same (fun i hi => (k1 _ (now_ok i hi).1 (now_ok i hi).2 (now_t i hi)).1)).congr hN.2 hz.2.1 k3, ?_, ⟨rot, r1, by rw [e36]; exact r2, ?_⟩, ⟨q, q1, by rw [e35]; exact q2, ?_⟩, ?_⟩
  · rw [e112]
    exact h3.same (fun o a b => (k1 o (by have : ∀ o, o < 10 → o ∉ scrL := by decide
                                          exact this o (by omega)) (by omega) (by simp; omega)).1)
  · rw [e35, k4, p4]
    exact h6
  · rw [p4, e112]
    intro k hk9
    obtain ⟨a, b⟩ := r3 k hk9
    have m7 := Nat.mod_lt (rot + k) (show 0 < 7 by decide)
    have e : ∀ i, i < 54 → gI M' 110 (54 * (1 + k) + i) = gI M 110 (54 * (1 + k) + i) := fun i _ => k5 _ (by omega)
    exact ⟨a.congr hN.2 hz.2.1 e, (b.same (fun i hi => (k1 _ (rot_ok _ m7 i hi).1 (rot_ok _ m7 i hi).2 (rot_t _ m7 i hi)).1)).congr hN.2 hz.2.1 e⟩
  · rw [e111, e112]
    intro z hz2
    obtain ⟨a, b⟩ := q3 z hz2
    have e : ∀ i, i < 54 → gI M' 110 (54 * (8 + z) + i) = gI M 110 (54 * (8 + z) + i) := fun i _ => k5 _ (by omega)
    exact ⟨a, fun y => ⟨(b y).1.congr hN.2 hz.2.1 e, ((b y).2.same (fun i hi => (k1 _ (slot_ok z hz2 i hi).1 (slot_ok z hz2 i hi).2 (slot_t z hz2 i hi)).1)).congr hN.2 hz.2.1 e⟩⟩
  · rw [e112]
    exact hc
theorem invKt {M M' : Mem} (hI : Inv M) (h : Has M) (hk : kt M M') (hc : Cache (gI M 112) M') : Inv M' := by
  have hh := hasKt h hk hc
  obtain ⟨h1, h2, h3, h4, h5, _⟩ := hI
  obtain ⟨k1, k2, k3, k5⟩ := hk
  have k9 := k2 9 (by decide)
  have k31 := k2 31 (by decide)
  have p9 : pn (gI M' 108) 9 = pn (gI M 108) 9 := by unfold pn; rw [k9]
  have p31 : pn (gI M' 108) 31 = pn (gI M 108) 31 := by unfold pn; rw [k31]
  refine ⟨?_, ?_, ?_, ?_, ?_, Or.inr hh⟩
  · rw [k9, p9, (k1 1 (by decide) (by decide) (by decide)).1, (k1 2 (by decide) (by decide) (by decide)).1, (k1 114 (by decide) (by decide) (by decide)).1]
    exact h1
  · rw [k2 10 (by decide), k2 11 (by decide), (k1 21 (by decide) (by decide) (by decide)).1]
    exact h2
  · rw [k31, p31, (k1 105 (by decide) (by decide) (by decide)).1, (k1 106 (by decide) (by decide) (by decide)).1, (k1 123 (by decide) (by decide) (by decide)).1]
    exact h3
  · rw [(k1 37 (by decide) (by decide) (by decide)).2.2]
    exact h4
  · rw [(k1 92 (by decide) (by decide) (by decide)).2.2, (k1 33 (by decide) (by decide) (by decide)).1, (k1 34 (by decide) (by decide) (by decide)).1]
    exact h5
/-! gainOfWalks -/
def wkG (P : Nat → Int32) (W : Nat → Nat) (s x H : Nat) : Int32 := smI H (fun t => P (14 + (wkX P W s x t * 3 + wkA P W s x t)))
def wkN (s H : Nat) : Nat → Nat
  | 0 => s
  | n + 1 => wkS (wkN s H n) H
theorem wkN_lt {s H : Nat} (h : s < 30011) : ∀ n, wkN s H n < 30011
  | 0 => h
  | n + 1 => wkS_lt (wkN_lt h n) H
theorem smI_congr {f g : Nat → Int32} {n : Nat} (h : ∀ t, t < n → f t = g t) : smI n f = smI n g := by
  induction n with
  | zero => rfl
  | succ n ih =>
    show smI n f + f n = smI n g + g n
    rw [ih (fun t ht => h t (by omega)), h n (by omega)]
theorem gainOfNext_ok {Z : Nat} {M : Mem} {P : Nat → Int32} (hV : VP P) (hc : DC P M) (hg : ∀ r, r < 18 → gI M 5 r = P (14 + r)) (hZ : 10 < Z) {W : Nat → Nat} (hK : WOK P W) (hW : ∀ r, r < 3 * cN P → gI M 11 r = nI (W r)) {s x H : Nat} (hs : s < 30011) (hx : x < cN P) (hH : H ≤ 5) (h3 : gI M 10 3 = nI x) (h4 : gI M 10 4 = nI H) (h1 : gI M 104 1 = nI s) : ∃ M', f_X10_gainOfNext Z M = some (wkG P W s x H, M') ∧ fr [104] M M' ∧ gI M' 104 1 = nI (wkS s H) := by
  have hN := hV.2.1
  have no3 : ∀ o, 3 ≤ o → o ≤ 9 → o ∉ [104] := fun o a b z => by
    have := List.mem_singleton.mp z
    omega
  unfold f_X10_gainOfNext
  rw [bd_eq, h3, bd_eq, i0]
  refine lpS (σ := Mem) (fun n t M' => f_X10_gainOfNext_L12 Z n (smI t (fun t => P (14 + (wkX P W s x t * 3 + wkA P W s x t)))) (nI t) M') (fun q => ∃ M', q = some (wkG P W s x H, M') ∧ fr [104] M M' ∧ gI M' 104 1 = nI (wkS s H)) (fun t M' => fr [104] M M' ∧ gI M' 104 1 = nI (wkS s t) ∧ gI M' 104 2 = nI (wkX P W s x t)) 0 H (by omega) (by omega) ⟨fr_sI fr.rfl (by decide), by rw [gI_sI, if_neg (by decide)]; exact h1, by rw [gI_sI, if_pos ⟨rfl, rfl⟩]; rfl⟩ ?_ ?_
  · intro n t M' _ ht hI K
    obtain ⟨g1, g2, g3⟩ := hI
    have hx' := wkX_lt hV hK hx (s := s) t
    have ha' := wkA_lt hV hK hx (s := s) t
    have hm := hV.2.2.1 (wkX P W s x t)
    obtain ⟨_, M2, e1, q1, q2, q3, q4⟩ := step_ok (Z := Z) hV (hc.fr g1 no3) hZ hK (fun r hr => by rw [g1.I (by decide)]; exact hW r hr) (wkS_lt hs t) hx' g2 g3
    have q4' : gI M2 104 3 = nI (wkA P W s x t) := q4
    have K1 := K M2 ⟨g1.trans q1, q2, q3⟩
    rw [f_X10_gainOfNext_L12, bd_eq, g1.I (by decide), h4, if_neg (by rw [nI_ile (by omega) (by omega)]; omega), bd_eq, g3, e1, cl_some, bd_eq, q4', rowOf_eq, cl_some, rdI_n (by omega) (by decide), (g1.trans q1).I (by decide), hg _ (by omega), i1, nI_add]
    exact K1
  · intro n M' hI
    rw [f_X10_gainOfNext_L12, bd_eq, hI.1.I (by decide), h4, if_pos (by rw [nI_ile (by omega) (by omega)]; omega)]
    exact ⟨M', rfl, hI.1, hI.2.1⟩
theorem ok_gainOfWalks {Z : Nat} (hZ : 4000 < Z) {M : Mem} (hI : Inv M) (h : Has M) {n : Nat} (h1n : 1 ≤ n) (hn : n ≤ 200) : OKc (f_X11_gainOfWalks Z M (nI n)) (fun M => f_X12_gainOfWalks Z M (nI n)) (·.toInt64) (·.toInt64) := by
  have hN := h.N
  have hV := h.2.1
  have hS := h.VS
  have hR := h.RS
  have hK := hS.W
  obtain ⟨eS0, hx⟩ := hS.v0
  obtain ⟨eS1, hH1, hH⟩ := hS.v1
  obtain ⟨eS2, hs⟩ := hS.v2
  generalize hxx : pn (gI M 109) 0 = x at *
  generalize hHH : pn (gI M 109) 1 = H at *
  generalize hss : pn (gI M 109) 2 = s at *
  generalize hPP : gI M 112 = P at *
  generalize hWW : sW (gI M 109) = W at *
  have c3 : gI M 10 3 = nI x := hR.1.1.trans eS0
  have c4 : gI M 10 4 = nI H := hR.1.2.1.trans eS1
  have c5 : gI M 10 5 = nI s := hR.1.2.2.1.trans eS2
  have hWc : ∀ r, r < 3 * cN P → gI M 11 r = nI (W r) := fun r hr => by
    rw [show (11 : Nat) = 10 + 1 from rfl, hR.2.1 r hr, ← hWW]
    exact hS.v3.1 r (by omega)
  have hd : DC P M := by
    rw [← hPP]
    exact h.dc
  have hg : ∀ r, r < 18 → gI M 5 r = P (14 + r) := fun r hr => by
    rw [← hPP]
    exact h.2.2.1.2.2.2.1 r hr
  have no3 : ∀ o, 3 ≤ o → o ≤ 9 → o ∉ [104] := fun o a b z => by
    have := List.mem_singleton.mp z
    omega
  have cls : ∃ M1, f_X11_gainOfWalks Z M (nI n) = some (.ok (smI n (fun k => wkG P W (wkN s H k) x H)), M1) ∧ fr [104] M M1 := by
    unfold f_X11_gainOfWalks
    rw [h.nC, clT_ok, needRangeN (a := 1) (b := 200) rfl rfl, if_pos (inN_of h1n hn (by decide)), clT_ok, bd_eq, c5, bd_eq, i0]
    refine lpS (σ := Mem) (fun m k M' => f_X11_gainOfWalks_L30 Z (nI n) m (smI k (fun k => wkG P W (wkN s H k) x H)) (nI k) M') (fun q => ∃ M', q = some (.ok (smI n (fun k => wkG P W (wkN s H k) x H)), M') ∧ fr [104] M M') (fun k M' => fr [104] M M' ∧ gI M' 104 1 = nI (wkN s H k)) 0 n (by omega) (by omega) ⟨fr_sI fr.rfl (by decide), by rw [gI_sI, if_pos ⟨rfl, rfl⟩]; rfl⟩ ?_ ?_
    · intro m k M' _ hk hI K
      obtain ⟨g1, g2⟩ := hI
      obtain ⟨M2, e1, q1, q2⟩ := gainOfNext_ok (Z := Z) hV (hd.fr g1 no3) (fun r hr => by rw [g1.I (by decide)]; exact hg r hr) (by omega) hK (fun r hr => by rw [g1.I (by decide)]; exact hWc r hr) (wkN_lt hs k) hx hH (by rw [g1.I (by decide)]; exact c3) (by rw [g1.I (by decide)]; exact c4) g2
      have K1 := K M2 ⟨g1.trans q1, q2⟩
      rw [f_X11_gainOfWalks_L30, if_neg (by rw [nI_ile (by omega) (by omega)]; omega), e1, cl_some, i1, nI_add]
      exact K1
    · intro m M' hI
      rw [f_X11_gainOfWalks_L30, if_pos (by rw [nI_ile (by omega) (by omega)]; omega)]
      exact ⟨M', rfl, hI.1⟩
  obtain ⟨M1, ecls, f1⟩ := cls
  generalize hv : smI n (fun k => wkG P W (wkN s H k) x H) = v at ecls
  have kp1 : kp M (sL M1 124 0 v.toInt64) := (kp.of f1 (by decide)).trans out_kp
  have h2 := h.kp kp1
  have I2 := hI.kp kp1
  generalize hM2 : sL M1 124 0 v.toInt64 = M2 at *
  have o2 : gL M2 124 0 = v.toInt64 := by rw [← hM2, gL_sL, if_pos ⟨rfl, rfl⟩]
  have j109 : gI (T0 M2) 109 = gI M 109 := by rw [T0_I (by decide), (kp1.1 109 (by decide) (by decide)).1]
  have j112 : gI (T0 M2) 112 = P := by rw [T0_I (by decide), (kp1.1 112 (by decide) (by decide)).1, hPP]
  obtain ⟨_, M3, e3, f3, k3, k3'⟩ := keeps_ok (Z := Z) (M := T0 M2) (by omega) (r := 0) (by decide)
  have j109' : gI M3 109 = gI M 109 := by rw [f3.I (by decide), j109]
  have j112' : gI M3 112 = P := by rw [f3.I (by decide), j112]
  have ref : ∃ M4, f_X12_gainOfWalks Z M2 (nI n) = some (v, M4) ∧ fr [109, 110] (T0 M2) M4 ∧ (∀ i, i < 54 → gI M4 109 i = gI M 109 i) ∧ ∀ j, 54 ≤ j → gI M4 110 j = gI M 110 j := by
    unfold f_X12_gainOfWalks
    rw [h2.rC, cl_some, if_pos rfl, in_N (a := 1) (b := 200) rfl rfl, cl_some, rfz T0_0 (by decide), if_pos (inN_of h1n hn (by decide)), if_pos rfl, i0, e3, cl_some]
    refine lpS (σ := Mem) (fun m k M' => f_X12_gainOfWalks_L43 Z (nI n) (fun (y19 : Int32) (M20 : Mem) => cl (f_X12_fetches Z M20 (nI 0)) (fun v21 M22 => some (y19, M22))) m (smI k (fun k => wkG P W (wkN s H k) x H)) (nI k) M') (fun q => ∃ M4, q = some (v, M4) ∧ fr [109, 110] (T0 M2) M4 ∧ (∀ i, i < 54 → gI M4 109 i = gI M 109 i) ∧ ∀ j, 54 ≤ j → gI M4 110 j = gI M 110 j) (fun k M' => fr [109] M3 M' ∧ gI M' 109 2 = nI (wkN s H k) ∧ ∀ i, i ≠ 2 → i ≠ 3 → (i < 43 ∨ 54 ≤ i) → gI M' 109 i = gI M 109 i) 0 n (by omega) (by omega) ⟨fr.rfl, by rw [j109']; exact eS2, fun i _ _ _ => by rw [j109']⟩ ?_ ?_
    · intro m k M' _ hk hI K
      obtain ⟨g1, g2, g3⟩ := hI
      obtain ⟨_, M5, e5, w⟩ := walks_ok (Z := Z) (M := M') hV (by rw [g1.I (by decide), j112']) (by omega) hK (fun r hr => by rw [g3 (4 + r) (by omega) (by omega) (by omega), ← hWW]; exact hS.v3.1 r hr) (wkN_lt hs k) hx hH (by rw [g3 0 (by omega) (by omega) (by omega)]; exact eS0) (by rw [g3 1 (by omega) (by omega) (by omega)]; exact eS1) g2
      have wk := w.wk hV hK hx hH1 hH
      obtain ⟨r1, r2, r3, r4, r5, r6⟩ := w
      have e9 : smI H (fun t => P (14 + (pn (gI M5 109) (43 + t) * 3 + pn (gI M5 109) (49 + t)))) = wkG P W (wkN s H k) x H := smI_congr (fun t ht => by
        have hx' := wkX_lt hV hK hx (s := wkN s H k) t
        have ha' := wkA_lt hV hK hx (s := wkN s H k) t
        have hm := hV.2.2.1 (wkX P W (wkN s H k) x t)
        rw [pn_n (n := wkX P W (wkN s H k) x t) (by rw [r5 t (by omega), if_pos (by omega)]) (by omega), pn_n (n := wkA P W (wkN s H k) x t) (by rw [r6 t (by omega), if_pos ht]) (by omega)])
      have K1 := K M5 ⟨g1.trans r1, r3, fun i a b c => by rw [r2 i a b c]; exact g3 i a b c⟩
      rw [f_X12_gainOfWalks_L43, if_neg (by rw [nI_ile (by omega) (by omega)]; omega), e5, cl_some, ofWalk_eq (S := gI M5 109) hV (by rw [r1.I (by decide), g1.I (by decide), j112']) rfl (by omega) wk (its := fun x a => P (14 + (x * 3 + a))) (Or.inl ⟨rfl, fun _ _ => rfl⟩), cl_some, e9, i1, nI_add]
      exact K1
    · intro m M' hI
      obtain ⟨g1, g2, g3⟩ := hI
      obtain ⟨_, M6, e6, f6, k6⟩ := fetches_ok (Z := Z) (M := M') (by omega) (r := 0) (by decide)
      rw [f_X12_gainOfWalks_L43, if_pos (by rw [nI_ile (by omega) (by omega)]; omega), e6, cl_some, hv]
      refine ⟨M6, rfl, ((f3.mono (by decide)).trans (g1.mono (by decide))).trans (f6.mono (by decide)), fun i hi => ?_, fun j hj => ?_⟩
      · rw [k6 i hi, g1.I (by decide), k3 i hi, j109]
      · rw [f6.I (by decide), g1.I (by decide), k3' j (by omega), T0_I (by decide), (kp1.1 110 (by decide) (by decide)).1]
  obtain ⟨M4, e4, f4, t4, u4⟩ := ref
  have kt4 : kt M M4 := by
    refine ⟨fun o a b c => ?_, fun k hk => ?_, t4, u4⟩
    · have c1 : o ∉ [109, 110] := fun z => c (by
        simp only [List.mem_cons, List.not_mem_nil, or_false] at z ⊢
        omega)
      have q := f4 o c1
      have q2 := kp1.1 o a b
      rw [T0_I b, T0_L, T0_R] at q
      exact ⟨q.1.trans q2.1, q.2.1.trans q2.2.1, q.2.2.trans q2.2.2⟩
    · rw [f4.I (by decide), T0.kp.2 k hk, kp1.2 k hk]
  have hc4 : Cache (gI M 112) M4 := by
    have hc := h.2.2.2.2.2.2.2.2
    have q96 := (f4 96 (by decide)).1
    have q97 := (f4 97 (by decide)).2.1
    have q98 := (f4 98 (by decide)).2.1
    rw [T0_I (by decide), (kp1.1 96 (by decide) (by decide)).1] at q96
    rw [T0_L, (kp1.1 97 (by decide) (by decide)).2.1] at q97
    rw [T0_L, (kp1.1 98 (by decide) (by decide)).2.1] at q98
    unfold Cache
    rw [q96, q97, q98]
    exact hc
  refine ⟨v, v, M1, M4, ecls, ?_, invKt hI h kt4 hc4, ?_, ?_⟩
  · show f_X12_gainOfWalks Z (sL M1 124 0 v.toInt64) (nI n) = _
    rw [hM2]
    exact e4
  · rw [f4.I (by decide)]
    exact T0_0
  · rw [(f4 124 (by decide)).2.1, T0_L]
    exact o2
theorem ck_gainOfWalks {Z : Nat} {M : Mem} (hZ : 4000 < Z) (hI : Inv M) (p1 : Int32) : CK (f_L_gainOfWalks Z M p1) (fun M => f_X12_gainOfWalks Z M p1) (·.toInt64) := by
  unfold f_L_gainOfWalks
  rcases hI.2.2.2.2.2 with h | h
  · exact CK.er hI (e := 0) (c := 1) (w := 0) (by unfold f_X11_gainOfWalks; rw [needChain0 h.2.1]; rfl) rfl (by decide) (by unfold f_X12_gainOfWalks; rw [noChain0 h.1]; rfl)
  · by_cases hp : inN p1 1 200
    · obtain ⟨n, h1, hn, rfl⟩ := inN_nI hp
      exact CK.mk (ok_gainOfWalks hZ hI h h1 hn)
    · exact CK.er hI (e := 2) (c := 2) (w := 0) (by unfold f_X11_gainOfWalks; rw [h.nC, clT_ok, needRangeN (a := 1) (b := 200) rfl rfl, if_neg hp]; rfl) rfl (by decide) (by unfold f_X12_gainOfWalks; rw [h.rC, cl_some, if_pos rfl, in_N (a := 1) (b := 200) rfl rfl, cl_some, rfz T0_0 (by decide), if_neg hp]; rfl)
theorem b_law_47 {Z L a : Nat} {xs : Nat → Int32} {M : Mem} {j : Mem → Option Unit} (hZ : 4000 < Z) (hI : Inv M) (ha : a + 6 ≤ L) (hL : L ≤ 3072) (hj : ∀ M1, Inv M1 → j M1 = some ()) : f_law_47 Z L xs M (nI a) j = some () := by
  unfold f_law_47
  simp (disch := omega) only [i1, nI_add, rdX_n]
  generalize xs (a + 1) = p1
  exact (ck_gainOfWalks hZ hI p1).tail hj
