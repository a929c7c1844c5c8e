/-! the text is fed to the class -/
def TS (M : Mem) (T : List Nat) : Prop := TXM M T.length ∧ (∀ j, j < T.length → gI M 213 j = nI (T.getD j 0)) ∧ (∀ b ∈ T, b < 128) ∧ T.length ≤ 1100
theorem tLen_R {β : Type} {R : Option β → Prop} {M : Mem} {T : List Nat} {k : Int32 → Option β} (h : TS M T) (K : R (k (nI T.length))) : R (tLen M k) := by
  have e : tLen M k = k (nI (vlen M 213)) := if_pos ⟨_, h.1⟩
  rw [e, h.1.2.1]
  exact K
theorem tAt_R {β : Type} {R : Option β → Prop} {M : Mem} {T : List Nat} {i : Nat} {k : Int32 → Option β} (h : TS M T) (hi : i < T.length) (K : R (k (nI (T.getD i 0)))) : R (tAt M (nI i) k) := by
  have h5 := h.2.2.2
  have e : tAt M (nI i) k = k (gI M 213 (nI i).toNatClampNeg) := if_pos ⟨⟨_, h.1⟩, nI_nlt0 (by omega), by rw [nI_clamp (by omega), h.1.2.1]; exact hi⟩
  rw [e, nI_clamp (by omega), h.2.1 i hi]
  exact K
/-- all but these objects below 320 stay -/
def fu9 (l : List Nat) (M M' : Mem) : Prop := ∀ o, o < 320 → o ∉ l → gI M' o = gI M o ∧ gL M' o = gL M o ∧ gR M' o = gR M o
theorem fu9.rfl {l : List Nat} {M : Mem} : fu9 l M M := fun _ _ _ => ⟨Eq.refl _, Eq.refl _, Eq.refl _⟩
theorem fu9.trans {l : List Nat} {M M1 M2 : Mem} (h : fu9 l M M1) (h2 : fu9 l M1 M2) : fu9 l M M2 := fun o a b => ⟨(h2 o a b).1.trans (h o a b).1, (h2 o a b).2.1.trans (h o a b).2.1, (h2 o a b).2.2.trans (h o a b).2.2⟩
theorem fu9.mono {l l2 : List Nat} {M M1 : Mem} (h : fu9 l M M1) (hl : ∀ o, o ∈ l → o ∈ l2) : fu9 l2 M M1 := fun o a b => h o a (fun z => b (hl o z))
theorem fu9.of {l : List Nat} {M M1 : Mem} (h : fr l M M1) : fu9 l M M1 := fun o _ b => h o b
theorem fu9.I {l : List Nat} {M M1 : Mem} (h : fu9 l M M1) {o : Nat} (ho : o < 320) (hl : o ∉ l) : gI M1 o = gI M o := (h o ho hl).1
theorem TS.fu9 {l : List Nat} {M M1 : Mem} {T : List Nat} (h : TS M T) (hf : fu9 l M M1) (h2 : 212 ∉ l) (h3 : 213 ∉ l) : TS M1 T := by
  unfold TS TXM vlen
  rw [hf.I (by decide) h2, hf.I (by decide) h3, (hf 213 (by decide) h3).2.1]
  exact h
theorem zap_f {M : Mem} {l : List Nat} : fu9 l M (zapT M) := fun o h _ => ⟨funext fun k => zapT_I h, funext fun k => zapT_L h, Eq.refl _⟩
theorem zap_z {M : Mem} (h : ∀ o, 320 ≤ o → o < 361 → ∀ k, gR M o k = none) : ZT (zapT M) := fun o h1 h2 => ⟨fun k => if_pos ⟨h1, h2⟩, fun k => if_pos ⟨h1, h2⟩, fun k => h o h1 h2 k⟩
/-- a byte of the text; blanks behind it -/
def cT9 (T : List Nat) (i : Nat) : Nat := if i < T.length then T.getD i 0 else 32
theorem cT9_lt {T : List Nat} (h : ∀ b ∈ T, b < 128) (i : Nat) : cT9 T i < 128 := by
  unfold cT9
  by_cases c : i < T.length
  · rw [if_pos c]
    exact h _ (getD_mem c)
  · rw [if_neg c]
    decide
def J17 (M0 : Mem) (T : List Nat) (i q : Nat) (M : Mem) : Prop := fu9 [] M0 M ∧ (∀ o, 320 ≤ o → o ≠ 360 → gI M o = gI M0 o ∧ gL M o = gL M0 o) ∧ gR M = gR M0 ∧ ∀ k, k < 5 → gI M 360 k = nI (pw (cT9 T) (i + 4 * k) (min 4 (q - 4 * k)))
theorem feed17 {sh : Nat → Option SE} {Z i c : Nat} {M0 : Mem} {T : List Nat} {R : Option (Int32 × Mem) → Prop} {k : Mem → Option (Int32 × Mem)} (hT : TS M0 T) (hi : i + 20 ≤ 1200) (hc : c ≤ 400) (hK : ∀ M, J17 M0 T i 20 M → R (k M)) : ∀ d fu q M, q + d = 20 → d < fu → J17 M0 T i q M → R (f_L_feeds_L17 sh Z 360 (nI i) c k fu (nI q) M) := by
  intro d
  induction d with
  | zero =>
    intro fu q M hb hd hJ
    obtain ⟨fu, rfl⟩ := Nat.exists_eq_succ_of_ne_zero (Nat.ne_of_gt hd)
    obtain rfl : q = 20 := hb
    rw [f_L_feeds_L17]
    exact ifp_R (by decide) (hK M hJ)
  | succ d ih =>
    intro fu q M hb hd hJ
    obtain ⟨fu, rfl⟩ := Nat.exists_eq_succ_of_ne_zero (show fu ≠ 0 by omega)
    obtain ⟨h1, h2, h3, h4⟩ := hJ
    have hT1 := hT.fu9 h1 (by decide) (by decide)
    have cl := cT9_lt hT.2.2.1
    have ht : T.length ≤ 1100 := hT.2.2.2
    rw [f_L_feeds_L17]
    refine ifn_R (by rw [show (20 : Int32) = nI 20 from rfl, nI_ile (by decide) (by omega)]; omega) ?_
    rw [nzI_n (by decide), nzI_n (by decide), show (4 : Int32) = nI 4 from rfl, nI_div (by omega) (by decide)]
    refine rdI_R rfl (show q / 4 < 5 by omega) (by decide) ?_
    refine ifp_R (by omega) (tLen_R hT1 ?_)
    have e9 := h4 (q / 4) (by omega)
    have p4 := pw4 (a := i + 4 * (q / 4)) cl
    have key : ∀ j : Int32 → Option (Int32 × Mem), (∀ t, t < 256 → t = cT9 T (i + q) → R (j (nI t))) → R (if nI T.length ≤ nI i + nI q then j (32 : Int32) else (if c + 0 ≤ 400 then tAt M (nI i + nI q) (fun v8 => j v8) else none)) := fun j hj => by
      rw [nI_add]
      by_cases cc : T.length ≤ i + q
      · refine ifp_R (by rw [nI_ile (by omega) (by omega)]; exact cc) (hj 32 (by decide) ?_)
        unfold cT9
        rw [if_neg (by omega)]
      · refine ifn_R (by rw [nI_ile (by omega) (by omega)]; exact cc) (ifp_R (by omega) (tAt_R hT1 (by omega) (hj _ ?_ ?_)))
        · have := hT.2.2.1 _ (getD_mem (show i + q < T.length by omega))
          omega
        · unfold cT9
          rw [if_pos (by omega)]
    refine key (fun t5 => wrI M 360 5 (nI (q / 4)) ((gI M 360 (q / 4) <<< ((8 : Int32) &&& 31)) ||| t5) (fun M6 => f_L_feeds_L17 sh Z 360 (nI i) c k fu (nI q + (1 : Int32)) M6)) (fun t ht2 et => ?_)
    have pm : pw (cT9 T) (i + 4 * (q / 4)) (min 4 (q - 4 * (q / 4))) < 8388608 := by
      have : min 4 (q - 4 * (q / 4)) = 0 ∨ min 4 (q - 4 * (q / 4)) = 1 ∨ min 4 (q - 4 * (q / 4)) = 2 ∨ min 4 (q - 4 * (q / 4)) = 3 := by omega
      rcases this with e | e | e | e <;> rw [e]
      · exact Nat.zero_lt_succ _
      · exact p4.2.2.2
      · exact p4.2.2.1
      · exact p4.2.1
    refine wrI_R rfl (show q / 4 < 5 by omega) (by decide) ?_
    rw [e9, shl8 pm ht2, show nI q + (1 : Int32) = nI (q + 1) from nI_add q 1]
    refine ih fu (q + 1) _ (by omega) (by omega) ⟨fun o ho hl => ?_, fun o ho h9 => ?_, ?_, fun k hk => ?_⟩
    · obtain ⟨g1, g2, g3⟩ := h1 o ho hl
      exact ⟨by rw [gI_sI', if_neg (by omega)]; exact g1, g2, g3⟩
    · obtain ⟨g1, g2⟩ := h2 o ho h9
      exact ⟨by rw [gI_sI', if_neg h9]; exact g1, g2⟩
    · exact h3
    · rw [gI_sI]
      by_cases ck : k = q / 4
      · rw [if_pos ⟨rfl, ck⟩, ck, show min 4 (q + 1 - 4 * (q / 4)) = min 4 (q - 4 * (q / 4)) + 1 by omega, pw, et, show i + 4 * (q / 4) + min 4 (q - 4 * (q / 4)) = i + q by omega]
      · rw [if_neg (fun z => ck z.2), h4 k hk, show min 4 (q + 1 - 4 * k) = min 4 (q - 4 * k) by omega]
def JF (M0 : Mem) (T : List Nat) (i : Nat) (M : Mem) : Prop := fu9 [1, 2] M0 M ∧ ZT M ∧ gI M 1 1 = nI i ∧ ∀ j, j < i → gI M 2 j = nI (cT9 T j)
theorem feed_step {sh : Nat → Option SE} {Z i c : Nat} {M0 M : Mem} {T : List Nat} {R : Option (Int32 × Mem) → Prop} {k : Mem → Nat → Option (Int32 × Mem)} (hZ : 4000 < Z) (hT : TS M0 T) (hi : i + 20 ≤ 1200) (hc : c ≤ 400) (hJ : JF M0 T i M) (hK : ∀ M1, JF M0 T (i + 20) (zapT M1) → R (k M1 c)) : R (f_L_feeds_i sh Z (nI i) 360 c k M) := by
  obtain ⟨h1, h2, h3, h4⟩ := hJ
  have hT1 := hT.fu9 h1 (by decide) (by decide)
  have cl := cT9_lt hT.2.2.1
  unfold f_L_feeds_i
  refine feed17 (M0 := M) hT1 hi hc (fun M1 hJ1 => ?_) 20 Z 0 M (by decide) (by omega) ⟨fu9.rfl, fun _ _ _ => ⟨rfl, rfl⟩, rfl, fun k hk => ?_⟩
  · obtain ⟨a1, a2, a3, a4⟩ := hJ1
    refine rdI_R i0 (by decide) (by decide) (rdI_R i1 (by decide) (by decide) (rdI_R i2 (by decide) (by decide) (rdI_R i3 (by decide) (by decide) (rdI_R i4 (by decide) (by decide) ?_))))
    have b : ∀ k, k < 5 → gI M1 360 k = nI (pw (cT9 T) (i + 4 * k) 4) := fun k hk => by rw [a4 k hk, show min 4 (20 - 4 * k) = 4 by omega]
    rw [b 0 (by decide), b 1 (by decide), b 2 (by decide), b 3 (by decide), b 4 (by decide)]
    obtain ⟨M2, e2, f2, g2, d2⟩ := appendC_ok (Z := Z) (M := M1) (q := i) (by omega) hi (by rw [a1.I (by decide) (by decide)]; exact h3) (nI (pw (cT9 T) (i + 4 * 0) 4)) (nI (pw (cT9 T) (i + 4 * 1) 4)) (nI (pw (cT9 T) (i + 4 * 2) 4)) (nI (pw (cT9 T) (i + 4 * 3) 4)) (nI (pw (cT9 T) (i + 4 * 4) 4))
    refine ifp_R (by omega) ?_
    rw [e2, cl_some, show (20 : Int32) = nI 20 from rfl, nI_add]
    refine ifp_R rfl (hK M2 ⟨?_, zap_z (fun o o1 o2 k => ?_), ?_, fun j hj => ?_⟩)
    · exact ((h1.trans (a1.mono (by decide))).trans (fu9.of f2)).trans zap_f
    · rw [f2.R (by simp; omega), a3]
      exact (h2 o o1 o2).2.2 k
    · rw [zapT_I (by decide)]
      exact g2
    · rw [zapT_I (by decide), d2]
      by_cases c1 : i ≤ j ∧ j < i + 20
      · rw [if_pos c1]
        unfold by5
        have at9 : ∀ a, 4 * a ≤ j - i → j - i < 4 * a + 4 → (nI (pw (cT9 T) (i + 4 * a) 4) >>> (nI (24 - 8 * ((j - i) % 4)) &&& 31)).toInt8.toInt32 = nI (cT9 T j) := fun a h5 h6 => by
          rw [pw_at cl (show (j - i) % 4 < 4 by omega), show i + 4 * a + (j - i) % 4 = j by omega]
        by_cases g1 : 4 ≤ j - i
        · rw [if_pos g1]
          by_cases g2 : 8 ≤ j - i
          · rw [if_pos g2]
            by_cases g3 : 12 ≤ j - i
            · rw [if_pos g3]
              by_cases g4 : 16 ≤ j - i
              · rw [if_pos g4]
                exact at9 4 (by omega) (by omega)
              · rw [if_neg g4]
                exact at9 3 (by omega) (by omega)
            · rw [if_neg g3]
              exact at9 2 (by omega) (by omega)
          · rw [if_neg g2]
            exact at9 1 (by omega) (by omega)
        · rw [if_neg g1]
          exact at9 0 (by omega) (by omega)
      · rw [if_neg c1, a1.I (by decide) (by decide)]
        exact h4 j (by omega)
  · rw [show min 4 (0 - 4 * k) = 0 by omega, (h2 360 (by decide) (by decide)).1]
    rfl
def FdR (M : Mem) (T : List Nat) (x : Option (Int32 × Mem)) : Prop := ∃ M' q, x = some (1, M') ∧ fu9 [1, 2] M M' ∧ ZT M' ∧ gI M' 1 1 = nI q ∧ T.length ≤ q ∧ q ≤ 1200 ∧ ∀ j, j < T.length → gI M' 2 j = nI (T.getD j 0)
theorem feeds_ok {sh : Nat → Option SE} {Z : Nat} {M : Mem} {T : List Nat} (hZ : 4000 < Z) (hT : TS M T) (hz : ZT M) (h1 : gI M 1 1 = nI 0) : ∃ M' q, f_L_feeds sh Z M = some (1, M') ∧ fu9 [1, 2] M M' ∧ ZT M' ∧ gI M' 1 1 = nI q ∧ T.length ≤ q ∧ q ≤ 1200 ∧ ∀ j, j < T.length → gI M' 2 j = nI (T.getD j 0) := by
  have ht : T.length ≤ 1100 := hT.2.2.2
  have key : ∀ d fu i c M1, 20 * i + 20 * d = 1200 → d < fu → c ≤ i → 20 * i ≤ T.length + 20 → JF M T (20 * i) M1 → FdR M T (f_L_feeds_o sh Z fu M1 (nI (20 * i)) c) := by
    intro d
    induction d with
    | zero => intro fu i c M1 h2 _ _ h3 _; exact absurd h2 (by omega)
    | succ d ih =>
      intro fu i c M1 h2 hd hc h3 hJ
      obtain ⟨fu, rfl⟩ := Nat.exists_eq_succ_of_ne_zero (show fu ≠ 0 by omega)
      obtain ⟨g1, g2, g3, g4⟩ := hJ
      rw [f_L_feeds_o]
      refine ifp_R (by omega) (tLen_R (hT.fu9 g1 (by decide) (by decide)) ?_)
      by_cases cc : T.length ≤ 20 * i
      · refine ifp_R (by rw [nI_ile (by omega) (by omega)]; exact cc) ⟨M1, 20 * i, rfl, g1, g2, g3, cc, by omega, fun j hj => ?_⟩
        rw [g4 j (by omega)]
        unfold cT9
        rw [if_pos hj]
      · refine ifn_R (by rw [nI_ile (by omega) (by omega)]; exact cc) ?_
        rw [if_pos ⟨show c + 1 ≤ 400 by omega, g2 360 (by decide) (by decide)⟩]
        refine feed_step hZ hT (by omega) (by omega) ⟨g1, g2, g3, g4⟩ (fun M2 hJ2 => ?_)
        rw [show (20 : Int32) = nI 20 from rfl, nI_add, show 20 * i + 20 = 20 * (i + 1) by omega] at *
        exact ih fu (i + 1) (c + 1) _ (by omega) (by omega) (by omega) (by omega) hJ2
  exact key 60 Z 0 0 M (by decide) (by omega) (by omega) (by omega) ⟨fu9.rfl, hz, h1, fun j hj => absurd hj (by omega)⟩
