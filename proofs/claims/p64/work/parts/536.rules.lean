/-! a new rule -/
def S3w (S : Nat → Int32) (x : Nat) (w : Nat → Nat) (i : Nat) : Int32 := if 4 + x * 3 ≤ i ∧ i < 7 + x * 3 then nI (w (i - (4 + x * 3))) else S i
theorem S3w_in {S : Nat → Int32} {x a : Nat} {w : Nat → Nat} (ha : a < 3) : S3w S x w (4 + (x * 3 + a)) = nI (w a) := by
  unfold S3w
  rw [if_pos (by omega), show 4 + (x * 3 + a) - (4 + x * 3) = a by omega]
theorem S3w_ne {S : Nat → Int32} {x i : Nat} {w : Nat → Nat} (h : ¬ (4 + x * 3 ≤ i ∧ i < 7 + x * 3)) : S3w S x w i = S i := if_neg h
/-- weights that a rule may have -/
def WO (m : Nat) (w : Nat → Nat) : Prop := w 0 + w 1 + w 2 = 10 ∧ ∀ a, m ≤ a → a < 3 → w a = 0
theorem WO.le {m : Nat} {w : Nat → Nat} (h : WO m w) : ∀ a, a < 3 → w a ≤ 10 := fun a ha => by
  have h1 := h.1
  have : a = 0 ∨ a = 1 ∨ a = 2 := by omega
  rcases this with c | c | c <;> subst c <;> omega
theorem WO.sm {m : Nat} {w : Nat → Nat} (h : WO m w) (h1 : 1 ≤ m) (h3 : m ≤ 3) : sm m w = 10 := by
  obtain ⟨h0, hz⟩ := h
  have : m = 1 ∨ m = 2 ∨ m = 3 := by omega
  rcases this with c | c | c
  · subst c
    have z1 := hz 1 (by omega) (by omega)
    have z2 := hz 2 (by omega) (by omega)
    simp only [_root_.Jvm.Pilot.CDecisionChainLaw_law_r7942_c40cbd.sm]
    omega
  · subst c
    have z2 := hz 2 (by omega) (by omega)
    simp only [_root_.Jvm.Pilot.CDecisionChainLaw_law_r7942_c40cbd.sm]
    omega
  · subst c
    simp only [_root_.Jvm.Pilot.CDecisionChainLaw_law_r7942_c40cbd.sm]
    omega
theorem sW_in {S : Nat → Int32} {x a m : Nat} {w : Nat → Nat} (hw : WO m w) (hx : x < 6) (ha : a < 3) : sW9 (S3w S x w) (x * 3 + a) = w a := by
  have := hw.le a ha
  unfold sW9
  rw [if_pos (by omega)]
  exact pn_n (S3w_in ha) (by omega)
theorem sW_ne {S : Nat → Int32} {x r : Nat} {w : Nat → Nat} (h : ¬ (x * 3 ≤ r ∧ r < 3 + x * 3)) : sW9 (S3w S x w) r = sW9 S r := by
  unfold sW9
  by_cases c : r < 18
  · rw [if_pos c, if_pos c]
    exact pn_c (S3w_ne (by omega))
  · rw [if_neg c, if_neg c]
theorem VS.u3 {P S : Nat → Int32} {x : Nat} {w : Nat → Nat} (h : VS P S) (hV : VP P) (hx : x < cN P) (hw : WO (cM P x) w) : VS P (S3w S x w) := by
  have hN : cN P ≤ 6 := hV.2.1.2.1
  have hm := hV.2.2.1
  have n : ∀ {i}, ¬ (4 ≤ i ∧ i < 22) → S3w S x w i = S i := fun {i} hi => S3w_ne (by omega)
  have dec : ∀ r, r < 18 → (∃ a, a < 3 ∧ r = x * 3 + a) ∨ ¬ (x * 3 ≤ r ∧ r < 3 + x * 3) := fun r hr => by
    by_cases c : x * 3 ≤ r ∧ r < 3 + x * 3
    · exact .inl ⟨r - x * 3, by omega, by omega⟩
    · exact .inr c
  refine VS.mk (h.v0.congr (n (by omega))) (h.v1.congr (n (by omega))) (h.v2.congr (n (by omega))) ⟨fun r hr => ?_, fun r => ?_, fun y hy => ?_⟩ (h.v4.congr hN hm (fun r _ => n (by omega))) (h.v5.congr (fun b _ => n (by omega))) (h.v6.congr (n (by omega)) (fun i a b => n (by omega)))
  · rcases dec r hr with ⟨a, ha, e⟩ | c
    · rw [e, S3w_in ha, sW_in hw (by omega) ha]
    · rw [S3w_ne (by omega), sW_ne c]
      exact h.v3.1 r hr
  · by_cases hr : r < 18
    · rcases dec r hr with ⟨a, ha, e⟩ | c
      · rw [e, sW_in hw (by omega) ha]
        exact hw.le a ha
      · rw [sW_ne c]
        exact h.v3.2.1 r
    · unfold sW9
      rw [if_neg hr]
      omega
  · obtain ⟨y1, y2⟩ := h.v3.2.2 y hy
    have hmy := hm y
    by_cases c : y = x
    · subst c
      refine ⟨?_, fun a ha h3 => by rw [sW_in hw (by omega) h3]; exact hw.2 a ha h3⟩
      rw [sm_congr (g := w) (fun a ha => sW_in hw (by omega) (by omega))]
      exact hw.sm (hV.2.2.2.1 y hy) hmy
    · refine ⟨?_, fun a ha h3 => by rw [sW_ne (by omega)]; exact y2 a ha h3⟩
      rw [sm_congr (g := fun a => sW9 S (y * 3 + a)) (fun a ha => sW_ne (by omega))]
      exact y1
theorem rng {Z : Nat} {M : Mem} {w hi : Nat} (h : w ≤ hi) (hh : hi < 1000) : f_X11_needRange Z M (nI w) (0 : Int32) (nI hi) = some (.ok (), M) := by
  rw [needRangeN (a := 0) (b := hi) (by decide) (nI_toInt (by omega)), if_pos (inN_of (Nat.zero_le _) h (by omega))]
theorem c_setRule {Z x : Nat} {P S : Nat → Int32} {M : Mem} {w : Nat → Nat} (hZ : 60 < Z) (h : HasC P S M) (hx : x < cN P) (hw : WO (cM P x) w) : ∃ M', f_X11_setRule Z M (nI x) (nI (w 0)) (nI (w 1)) (nI (w 2)) = some (.ok (brk (brN P (S3w S x w) (sW9 (S3w S x w))) (cB P)), M') ∧ fr lCh M M' ∧ HasC P (S3w S x w) M' := by
  have hN := h.N
  have hm := h.z.2.1 x
  have em : gI M 4 x = nI (cM P x) := h.c.2.1 x (by omega)
  have w0 := hw.le 0 (by decide)
  have w1 := hw.le 1 (by decide)
  have w2 := hw.le 2 (by decide)
  have hVS := h.s.u3 h.1 hx hw
  obtain ⟨M1, e1, f1, h1⟩ := keep_C hZ h
  have f2 : fr [11] M1 (sI (sI (sI M1 11 (x * 3) (nI (w 0))) 11 (x * 3 + 1) (nI (w 1))) 11 (x * 3 + 2) (nI (w 2))) := fr_sI (fr_sI (fr_sI fr.rfl (by decide)) (by decide)) (by decide)
  have g11 : ∀ i, gI (sI (sI (sI M1 11 (x * 3) (nI (w 0))) 11 (x * 3 + 1) (nI (w 1))) 11 (x * 3 + 2) (nI (w 2))) 11 i = if i = x * 3 + 2 then nI (w 2) else if i = x * 3 + 1 then nI (w 1) else if i = x * 3 then nI (w 0) else gI M1 11 i := fun i => gI_3 i
  have eW : f_X11_setWeights Z M1 11 (nI x) (nI (w 0)) (nI (w 1)) (nI (w 2)) = some ((), sI (sI (sI M1 11 (x * 3) (nI (w 0))) 11 (x * 3 + 1) (nI (w 1))) 11 (x * 3 + 2) (nI (w 2))) := by
    unfold f_X11_setWeights
    rw [show (0 : Int32) = nI 0 from rfl, show (1 : Int32) = nI 1 from rfl, show (2 : Int32) = nI 2 from rfl, rowOf_eq, cl_some, wrI_n (by omega) (by decide), rowOf_eq, cl_some, wrI_n (by omega) (by decide), rowOf_eq, cl_some, wrI_n (by omega) (by decide)]
    rfl
  generalize sI (sI (sI M1 11 (x * 3) (nI (w 0))) 11 (x * 3 + 1) (nI (w 1))) 11 (x * 3 + 2) (nI (w 2)) = M2 at f2 g11 eW
  have hR : RS P M2 10 (S3w S x w) := by
    obtain ⟨⟨a1, a2, a3, a4⟩, b, c, d, e, f⟩ := h1.rs
    have g : ∀ o, o ≠ 11 → gI M2 o = gI M1 o := fun o ho => f2.I (by simp [ho])
    have n : ∀ {i}, ¬ (4 ≤ i ∧ i < 22) → S3w S x w i = S i := fun {i} hi => S3w_ne (by omega)
    refine ⟨⟨by rw [g 10 (by decide), n (by omega)]; exact a1, by rw [g 10 (by decide), n (by omega)]; exact a2, by rw [g 10 (by decide), n (by omega)]; exact a3, by rw [g 10 (by decide), n (by omega)]; exact a4⟩, fun r hr => ?_, fun y hy => ?_, fun k hk => by rw [g _ (by decide), n (by omega)]; exact d k hk, fun t ht => by rw [g _ (by decide), n (by omega)]; exact e t ht, fun t ht => by rw [g _ (by decide), n (by omega)]; exact f t ht⟩
    · show gI M2 11 r = _
      rw [g11]
      by_cases c2 : r = x * 3 + 2
      · rw [if_pos c2, c2, S3w_in (by decide)]
      · rw [if_neg c2]
        by_cases c1 : r = x * 3 + 1
        · rw [if_pos c1, c1, S3w_in (by decide)]
        · rw [if_neg c1]
          by_cases c0 : r = x * 3
          · rw [if_pos c0, c0]
            exact (S3w_in (a := 0) (by decide)).symm
          · rw [if_neg c0, S3w_ne (by omega)]
            exact b r hr
    · obtain ⟨q, q1, q2, q3⟩ := c y hy
      have := h.z.2.1 y
      exact ⟨q, q1, by rw [g _ (by decide)]; exact q2, fun a ha => by rw [n (by omega)]; exact q3 a ha⟩
  have h2 := hasSet h1 f2 (by decide) hVS hR
  obtain ⟨v, M3, e3, f3, hv⟩ := brokenWith_gen (Z := Z) (w := 11) (W := sW9 (S3w S x w)) hZ h2.1 h2.s h2.2.1 h2.rs.1.1 h2.rs.1.2.1 (fun b hb => h2.rs.2.2.2.1 b hb) (by decide) (fun r hr => h2.rs.w h2.s h2.N.2 r hr) h2.s.W
  refine ⟨M3, ?_, ((kp_ch f1).trans (f2.mono (by decide))).trans (sc_ch f3), h2.fr (fr3 f3) (fun o ho => (scr_ok o ho).2)⟩
  have fin : ∀ p : Option (Except Nat Int32 × Mem), (if (nI (w 0) + nI (w 1)) + nI (w 2) = (10 : Int32) then cl (f_X3_keep Z M) (fun v13 M14 => cl (f_X11_setWeights Z M14 (11) (nI x) (nI (w 0)) (nI (w 1)) (nI (w 2))) (fun v15 M16 => cl (f_X11_brokenWith Z M16 (11)) (fun v17 M18 => some (Except.ok v17, M18)))) else p) = some (Except.ok (brk (brN P (S3w S x w) (sW9 (S3w S x w))) (cB P)), M3) := fun p => by
    rw [nI_add, nI_add, hw.1, if_pos (by decide), e1, cl_some, eW, cl_some, e3, cl_some, hv]
  unfold f_X11_setRule
  rw [h.nS hx, clT_ok, show (10 : Int32) = nI 10 from rfl, rng w0 (by decide), clT_ok, rdI_n (by omega) (by decide), em, jnT]
  by_cases m1 : cM P x ≤ 1
  · have z1 := hw.2 1 m1 (by decide)
    have z2 := hw.2 2 (by omega) (by decide)
    rw [if_pos (by rw [show (1 : Int32) = nI 1 from rfl, nI_ile (by omega) (by decide)]; exact m1)]
    rw [show f_X11_needRange Z M (nI (w 1)) (0 : Int32) (0 : Int32) = some (.ok (), M) from rng (hi := 0) (by omega) (by decide), clT_ok, rdI_n (by omega) (by decide), em, jnT, if_pos (by rw [show (2 : Int32) = nI 2 from rfl, nI_ile (by omega) (by decide)]; omega)]
    rw [show f_X11_needRange Z M (nI (w 2)) (0 : Int32) (0 : Int32) = some (.ok (), M) from rng (hi := 0) (by omega) (by decide), clT_ok]
    exact fin _
  · rw [if_neg (by rw [show (1 : Int32) = nI 1 from rfl, nI_ile (by omega) (by decide)]; exact m1), rng w1 (by decide), clT_ok, rdI_n (by omega) (by decide), em, jnT]
    by_cases m2 : cM P x ≤ 2
    · have z2 := hw.2 2 m2 (by decide)
      rw [if_pos (by rw [show (2 : Int32) = nI 2 from rfl, nI_ile (by omega) (by decide)]; exact m2)]
      rw [show f_X11_needRange Z M (nI (w 2)) (0 : Int32) (0 : Int32) = some (.ok (), M) from rng (hi := 0) (by omega) (by decide), clT_ok]
      exact fin _
    · rw [if_neg (by rw [show (2 : Int32) = nI 2 from rfl, nI_ile (by omega) (by decide)]; exact m2), rng w2 (by decide), clT_ok]
      exact fin _
