/-! the weights of a rule line -/
def kW (Z : Nat) (M21 : Mem) : Option (Int32 × Mem) := cl (f_X4_fail Z M21 (1 : Int32)) (fun v22 M23 => (if v22 &&& 1 = v22 then some (v22, M23) else none))
def rW (Z : Nat) (v3 : Int32) (k : Int32 → Mem → Option (Unit × Mem)) (m : Nat) (xS xa : Int32) (M17 : Mem) : Option (Unit × Mem) := cl (f_X12_takes Z M17 (0 : Int32) ((10 : Int32) - xS)) (fun v18 M19 => nzI (3 : Int32) (cl (f_X12_puts Z M19 (((326 : Int32) + ((3 : Int32) * v3)) + (xa - xa / (3 : Int32) * (3 : Int32))) v18) (fun v20 M21 => f_X12_ruleLine_L53 Z v3 k m (xS + v18) (xa + (1 : Int32)) M21)))
theorem l53E {Z m : Nat} {v3 xS xa : Int32} {k : Int32 → Mem → Option (Unit × Mem)} {M : Mem} {c p : Nat} (h : erR c p M) : f_X12_ruleLine_L53 Z v3 k (m + 1) xS xa M = k xS M := by
  rw [f_X12_ruleLine_L53, bd_eq, if_neg (er_ne h)]
theorem rWE {Z m : Nat} {v3 xS xa : Int32} {k : Int32 → Mem → Option (Unit × Mem)} {M : Mem} {c p : Nat} (h : erR c p M) : ∃ w, rW Z v3 k (m + 1) xS xa M = k w M := by
  unfold rW
  rw [takesE h, cl_some, nzI_n (by decide), putsE h, cl_some, l53E h]
  exact ⟨_, rfl⟩
theorem l53_a {Z m x a c : Nat} {xS : Int32} {k : Int32 → Mem → Option (Unit × Mem)} {M : Mem} {b : Nat → Nat} {n e : Nat} {Q : Nat → Int32} (h : okR b n e Q M) (hx : x < 6) (h8 : Q (8 + x) = nI c) (hc : c < 10) (ha : a < c) (h2 : tK b n e = 2) : f_X12_ruleLine_L53 Z (nI x) k (m + 1) xS (nI a) M = rW Z (nI x) k m xS (nI a) M := by
  have k15 : gI M 108 15 = (2 : Int32) := by rw [h.2.1.1, h2]; rfl
  have r8 : gI M 113 (8 + x) = nI c := by rw [h.2.2.2.1]; exact h8
  rw [f_X12_ruleLine_L53, bd_eq, h.2.2.1, if_pos (show nI 0 = (0 : Int32) from rfl), jn_eq, k15]
  have fin : bd (2 : Int32) (fun v16 => jn (fun (t17 : Mem) => cl (f_X12_takes Z t17 (0 : Int32) ((10 : Int32) - xS)) (fun v18 M19 => nzI (3 : Int32) (cl (f_X12_puts Z M19 (((326 : Int32) + ((3 : Int32) * nI x)) + (nI a - nI a / (3 : Int32) * (3 : Int32))) v18) (fun v20 M21 => f_X12_ruleLine_L53 Z (nI x) k m (xS + v18) (nI a + (1 : Int32)) M21)))) (fun j24 => jn (fun (t25 : Unit) => cl (f_X12_fails Z M (1 : Int32)) (fun v26 M27 => j24 M27)) (fun j29 => (if v16 = (2 : Int32) then rdI M 113 344 ((8 : Int32) + nI x) (fun v30 => (if nI a < v30 then j24 M else j29 ())) else j29 ())))) = rW Z (nI x) k m xS (nI a) M := by
    rw [bd_eq, jn_eq, jn_eq, if_pos rfl, show (8 : Int32) = nI 8 from rfl, nI_add, rdI_n (by omega) (by decide), r8, if_pos (by rw [nI_ilt (by omega) (by omega)]; exact ha)]
    rfl
  by_cases z : nI a = (0 : Int32)
  · rw [if_pos z]
    exact fin
  · rw [if_neg z, bd_eq, if_pos rfl]
    exact fin
theorem l53_b {Z m x a c : Nat} {xS : Int32} {k : Int32 → Mem → Option (Unit × Mem)} {M M1 : Mem} {b : Nat → Nat} {n e : Nat} {Q : Nat → Int32} (h : okR b n e Q M) (hx : x < 6) (h8 : Q (8 + x) = nI c) (hc : c < 10) (ha4 : a < 10) (ha : ¬ (tK b n e = 2 ∧ a < c)) (h2 : a = 0 ∨ tK b n e = 2) (e1 : f_X12_fails Z M (nI 1) = some ((), M1)) : f_X12_ruleLine_L53 Z (nI x) k (m + 1) xS (nI a) M = rW Z (nI x) k m xS (nI a) M1 := by
  have kl := kR_lt (tK_lt (b := b) (n := n) (e := e))
  have r8 : gI M 113 (8 + x) = nI c := by rw [h.2.2.2.1]; exact h8
  rw [f_X12_ruleLine_L53, bd_eq, h.2.2.1, if_pos (show nI 0 = (0 : Int32) from rfl), jn_eq, h.2.1.1]
  have fin : bd (nI (kR (tK b n e))) (fun v16 => jn (fun (t17 : Mem) => cl (f_X12_takes Z t17 (0 : Int32) ((10 : Int32) - xS)) (fun v18 M19 => nzI (3 : Int32) (cl (f_X12_puts Z M19 (((326 : Int32) + ((3 : Int32) * nI x)) + (nI a - nI a / (3 : Int32) * (3 : Int32))) v18) (fun v20 M21 => f_X12_ruleLine_L53 Z (nI x) k m (xS + v18) (nI a + (1 : Int32)) M21)))) (fun j24 => jn (fun (t25 : Unit) => cl (f_X12_fails Z M (1 : Int32)) (fun v26 M27 => j24 M27)) (fun j29 => (if v16 = (2 : Int32) then rdI M 113 344 ((8 : Int32) + nI x) (fun v30 => (if nI a < v30 then j24 M else j29 ())) else j29 ())))) = rW Z (nI x) k m xS (nI a) M1 := by
    rw [bd_eq, jn_eq, jn_eq]
    by_cases c2 : tK b n e = 2
    · rw [if_pos (by rw [c2]; rfl), show (8 : Int32) = nI 8 from rfl, nI_add, rdI_n (by omega) (by decide), r8, if_neg (by rw [nI_ilt (by omega) (by omega)]; exact fun z => ha ⟨c2, z⟩)]
      show cl (f_X12_fails Z M 1) _ = _
      rw [show (1 : Int32) = nI 1 from rfl, e1, cl_some]
      rfl
    · rw [if_neg (by rw [show (2 : Int32) = nI 2 from rfl, nI_eq (by omega) (by decide), kR_2]; exact c2)]
      show cl (f_X12_fails Z M 1) _ = _
      rw [show (1 : Int32) = nI 1 from rfl, e1, cl_some]
      rfl
  by_cases z : a = 0
  · rw [if_pos (by rw [z]; rfl)]
    exact fin
  · have c2 : tK b n e = 2 := h2.resolve_left z
    rw [if_neg (by rw [show (0 : Int32) = nI 0 from rfl, nI_eq (by omega) (by decide)]; exact z), bd_eq, if_pos (by rw [c2]; rfl)]
    exact fin
theorem l53_k {Z m x a : Nat} {xS : Int32} {k : Int32 → Mem → Option (Unit × Mem)} {M : Mem} {b : Nat → Nat} {n e : Nat} {Q : Nat → Int32} (h : okR b n e Q M) (ha4 : a < 10) (ha : a ≠ 0) (h2 : tK b n e ≠ 2) : f_X12_ruleLine_L53 Z (nI x) k (m + 1) xS (nI a) M = k xS M := by
  have kl := kR_lt (tK_lt (b := b) (n := n) (e := e))
  rw [f_X12_ruleLine_L53, bd_eq, h.2.2.1, if_pos (show nI 0 = (0 : Int32) from rfl), jn_eq, h.2.1.1, if_neg (by rw [show (0 : Int32) = nI 0 from rfl, nI_eq (by omega) (by decide)]; exact ha), bd_eq, if_neg (by rw [show (2 : Int32) = nI 2 from rfl, nI_eq (by omega) (by decide), kR_2]; exact h2)]
/-- the class's weights while those of x are read: a of them so far -/
def CQWx (Q : Nat → Int32) (x a : Nat) (M : Mem) : Prop := (∀ y, y < 6 → y ≠ x → ∀ i, i < 3 → gI M 30 (y * 3 + i) = if Q (320 + y) = nI 1 then Q (326 + (y * 3 + i)) else if i = 0 then nI 10 else nI 0) ∧ Q (320 + x) = nI 1 ∧ ∀ i, i < 3 → (i < a → gI M 30 (x * 3 + i) = Q (326 + (x * 3 + i))) ∧ (a ≤ i → gI M 30 (x * 3 + i) = (if i = 0 then nI 10 else nI 0) ∧ Q (326 + (x * 3 + i)) = nI 0)
theorem CQWx.fP {Q : Nat → Int32} {x a : Nat} {M M' : Mem} (h : CQWx Q x a M) (hf : fP M M') : CQWx Q x a M' := by
  unfold CQWx
  rw [hf.1.I (by decide)]
  exact h
theorem CQWx.all {Q : Nat → Int32} {x a : Nat} {M : Mem} (h : CQWx Q x a M) (ha : a ≠ 0) : CQW Q M := fun y hy i hi => by
  by_cases c : y = x
  · rw [c, if_pos h.2.1]
    obtain ⟨h1, h2⟩ := h.2.2 i hi
    by_cases d : i < a
    · exact h1 d
    · obtain ⟨h3, h4⟩ := h2 (by omega)
      rw [h3, h4, if_neg (by omega)]
  · exact h.1 y hy c i hi
theorem CQWx.put {Q : Nat → Int32} {x a : Nat} {M : Mem} {v : Int32} (h : CQWx Q x a M) (hx : x < 6) (ha : a < 3) : CQWx (upd Q (326 + (x * 3 + a)) v) x (a + 1) (sI M 30 (x * 3 + a) v) := by
  refine ⟨fun y hy hn i hi => ?_, by rw [upd_ne (by omega)]; exact h.2.1, fun i hi => ⟨fun z => ?_, fun z => ?_⟩⟩
  · rw [gI_sI, if_neg (fun z => hn (by have := z.2; omega)), upd_ne (by omega), upd_ne (by omega)]
    exact h.1 y hy hn i hi
  · by_cases c : i = a
    · rw [c, upd_eq, gI_sI, if_pos ⟨rfl, rfl⟩]
    · rw [gI_sI, if_neg (fun z => c (by have := z.2; omega)), upd_ne (by omega)]
      exact (h.2.2 i hi).1 (by omega)
  · rw [gI_sI, if_neg (fun z => by have := z.2; omega), upd_ne (by omega)]
    exact (h.2.2 i hi).2 (by omega)
def sW3 (Q : Nat → Int32) (x : Nat) : Nat := pn Q (326 + (x * 3 + 0)) + pn Q (326 + (x * 3 + 1)) + pn Q (326 + (x * 3 + 2))
theorem sW3_upd {Q : Nat → Int32} {x a v : Nat} (ha : a < 3) (hz : pn Q (326 + (x * 3 + a)) = 0) (hv : v < 2 ^ 31) : sW3 (upd Q (326 + (x * 3 + a)) (nI v)) x = sW3 Q x + v := by
  have g : ∀ i, pn (upd Q (326 + (x * 3 + a)) (nI v)) (326 + (x * 3 + i)) = if i = a then v else pn Q (326 + (x * 3 + i)) := fun i => by
    rw [pn_upd hv]
    by_cases c : i = a
    · rw [if_pos (by rw [c]), if_pos c]
    · rw [if_neg (by omega), if_neg c]
  unfold sW3
  rw [g, g, g]
  have : a = 0 ∨ a = 1 ∨ a = 2 := by omega
  rcases this with c | c | c
  · subst c
    rw [if_pos rfl, if_neg (by decide), if_neg (by decide), hz]
    omega
  · subst c
    rw [if_neg (by decide), if_pos rfl, if_neg (by decide), hz]
    omega
  · subst c
    rw [if_neg (by decide), if_neg (by decide), if_pos rfl, hz]
    omega
theorem weights_all {Z : Nat} {b : Nat → Nat} {n x c : Nat} (hZ : 4000 < Z) (hx : x < 6) (hc : c ≤ 3) (k0 : Int32 → Mem → Option (Int32 × Mem)) : ∀ d a S e (Q : Nat → Int32) (Mc Mr : Mem), a + d = 3 → (a = 0 → tK b n e = 2) → a ≤ c → Q (8 + x) = nI c → VW Q → sW3 Q x = S → S ≤ 10 → okC b n e Mc → CQ0 Q Mc → CQWx Q x a Mc → okR b n e Q Mr →
    (∃ e' Q' S' Mc' Mr', (∀ m, d < m → f_X4_parseWeights_L22 Z (nI x) k0 (kW Z) m (nI (10 - S)) (nI a) Mc = k0 (nI (10 - S')) Mc') ∧ (∀ m k, d + 2 < m → f_X12_ruleLine_L53 Z (nI x) k m (nI S) (nI a) Mr = k (nI S') Mr') ∧ GCR b n e' Q' Mc' Mr' ∧ VW Q' ∧ sW3 Q' x = S' ∧ S' ≤ 10 ∧ (∀ i, i < 3 → c ≤ i → pn Q' (326 + (x * 3 + i)) = 0) ∧ (∀ i, i < 326 + x * 3 ∨ 329 + x * 3 ≤ i → Q' i = Q i) ∧ e ≤ e' ∧ fr lP Mc Mc' ∧ fQ Mr Mr') ∨
    (∃ c1 p Mc' Mr', (∀ m, d < m → f_X4_parseWeights_L22 Z (nI x) k0 (kW Z) m (nI (10 - S)) (nI a) Mc = some (0, Mc')) ∧ (∀ m k, d + 2 < m → ∃ w, f_X12_ruleLine_L53 Z (nI x) k m (nI S) (nI a) Mr = k w Mr') ∧ erC c1 p Mc' ∧ erR c1 p Mr' ∧ fr lP Mc Mc' ∧ fQ Mr Mr')
  | d, a, S, e, Q, Mc, Mr, hd, h0a, hac, h8, hV, hS, hS10, hc0, hq, hwx, hr => by
    have kl := tK_lt (b := b) (n := n) (e := e)
    have s10 : (10 : Int32) - nI S = nI (10 - S) := nI_sub hS10
    have n3 : ¬ (3 : Int32) < nI a := by
      rw [show (3 : Int32) = nI 3 from rfl, nI_ilt (by decide) (by omega)]
      omega
    have m8 : gI Mc 23 x = nI c := (hq.1.2.2.1 x hx).trans h8
    by_cases c2 : tK b n e = 2
    · have k3 : gI Mc 1 3 = (2 : Int32) := by rw [hc0.2.1.1, c2]; rfl
      by_cases la : a < c
      · have st : ∀ m, f_X4_parseWeights_L22 Z (nI x) k0 (kW Z) (m + 1) (nI (10 - S)) (nI a) Mc = cl (f_X4_takeNumber Z Mc (nI 0) (nI (10 - S))) (fun v7 M8 => (if v7 = 0 then some ((0 : Int32), M8) else cl (f_X11_rowOf Z M8 (nI x) (nI a)) (fun v9 M10 => bd (gI M10 (21) 5) (fun v11 => wrI M10 30 18 v9 v11 (fun M12 => bd (gI M12 (21) 5) (fun v13 => f_X4_parseWeights_L22 Z (nI x) k0 (kW Z) m (nI (10 - S) - v13) (nI a + (1 : Int32)) M12)))))) := fun m => by
          rw [f_X4_parseWeights_L22, if_neg n3, bd_eq, k3, if_pos rfl, rdI_n hx (by decide), m8, if_pos (by rw [nI_ilt (by omega) (by omega)]; exact la)]
          rfl
        by_cases hv : nOK (tV b n e) 0 (nI (10 - S))
        · obtain ⟨C1, k1, f1, g1, o1⟩ := takeC hZ hc0 (lo := 0) (by decide) c2 hv
          obtain ⟨R1, q1, s1, t1⟩ := takesR hZ hr (lo := 0) (by decide) c2 hv
          have lv : tV b n e ≤ 10 - S := by
            have := hv.2
            rw [nI_toInt (by omega)] at this
            omega
          have le1 := tE_le (b := b) hc0.2.2
          generalize hvv : tV b n e = v at *
          have z0 : pn Q (326 + (x * 3 + a)) = 0 := pn_n ((hwx.2.2 a (by omega)).2 (Nat.le_refl _)).2 (by decide)
          obtain ⟨R2, q2, s2, t2⟩ := putsR (Z := Z) (v := nI v) t1 (j := 326 + (x * 3 + a)) (by omega)
          have F1 : fr lP Mc (sI C1 30 (x * 3 + a) (nI v)) := fr_sI f1.p (by decide)
          have G1 := s1.trans s2
          have ia : (((326 : Int32) + ((3 : Int32) * nI x)) + (nI a - nI a / (3 : Int32) * (3 : Int32))) = nI (326 + (x * 3 + a)) := by
            rw [show (326 : Int32) = nI 326 from rfl, show (3 : Int32) = nI 3 from rfl, nI_mod (by omega) (by decide), show a % 3 = a by omega, nI_mul, nI_add, nI_add, Nat.mul_comm 3 x, Nat.add_assoc]
          have ss : 10 - S - v = 10 - (S + v) := by omega
          have w1 : ∀ m, f_X4_parseWeights_L22 Z (nI x) k0 (kW Z) (m + 1) (nI (10 - S)) (nI a) Mc = f_X4_parseWeights_L22 Z (nI x) k0 (kW Z) m (nI (10 - (S + v))) (nI (a + 1)) (sI C1 30 (x * 3 + a) (nI v)) := fun m => by
            rw [st m, k1, cl_some, if_neg (by decide)]
            unfold f_X11_rowOf
            rw [cl_some, bd_eq, g1, show (3 : Int32) = nI 3 from rfl, nI_mul, nI_add, wrI_n (by omega) (by decide), bd_eq, gI_sI, if_neg (fun z => absurd z.1 (by decide)), g1, nI_sub lv, ss, show nI a + (1 : Int32) = nI (a + 1) from nI_add a 1]
          have w2 : ∀ m k, f_X12_ruleLine_L53 Z (nI x) k (m + 1) (nI S) (nI a) Mr = f_X12_ruleLine_L53 Z (nI x) k m (nI (S + v)) (nI (a + 1)) R2 := fun m k => by
            rw [l53_a hr hx h8 (by omega) la c2]
            unfold rW
            rw [s10, show f_X12_takes Z Mr 0 (nI (10 - S)) = some (nI v, R1) from q1, cl_some, nzI_n (by decide), ia, q2, cl_some, nI_add, show nI a + (1 : Int32) = nI (a + 1) from nI_add a 1]
          rcases weights_all hZ hx hc k0 (d - 1) (a + 1) (S + v) (tE b n e) _ (sI C1 30 (x * 3 + a) (nI v)) R2 (by omega) (by omega) (by omega) (by rw [upd_ne (by omega)]; exact h8) (hV.put (by omega) (by rw [mxW]; omega)) (by rw [sW3_upd (by omega) z0 (by omega), hS]) (by omega) (o1.s (by decide) (by decide)) ((hq.fP f1).updW hV.T (by omega)) ((hwx.fP f1).put hx (by omega)) t2 with ⟨e2, Q2, S2, C2, R3, k4, q4, g4, V4, a4, l4, z4, u4, le4, F4, G4⟩ | ⟨c4, p4, C2, R3, k4, q4, oC, oR, F4, G4⟩
          · refine Or.inl ⟨e2, Q2, S2, C2, R3, fun m hm => ?_, fun m k hm => ?_, g4, V4, a4, l4, z4, fun i hi => ?_, by omega, F1.trans F4, G1.trans G4⟩
            · obtain ⟨m', rfl⟩ : ∃ m', m = m' + 1 := ⟨m - 1, by omega⟩
              rw [w1]
              exact k4 m' (by omega)
            · obtain ⟨m', rfl⟩ : ∃ m', m = m' + 1 := ⟨m - 1, by omega⟩
              rw [w2]
              exact q4 m' k (by omega)
            · rw [u4 i hi, upd_ne (by omega)]
          · refine Or.inr ⟨c4, p4, C2, R3, fun m hm => ?_, fun m k hm => ?_, oC, oR, F1.trans F4, G1.trans G4⟩
            · obtain ⟨m', rfl⟩ : ∃ m', m = m' + 1 := ⟨m - 1, by omega⟩
              rw [w1]
              exact k4 m' (by omega)
            · obtain ⟨m', rfl⟩ : ∃ m', m = m' + 1 := ⟨m - 1, by omega⟩
              rw [w2]
              exact q4 m' k (by omega)
        · obtain ⟨C1, k1, f1, o1⟩ := takeN (Z := Z) hc0 (lo := 0) (hi := nI (10 - S)) (by decide) (fun z => hv z.2)
          obtain ⟨R1, q1, s1, t1⟩ := takesN (Z := Z) hr (lo := 0) (hi := nI (10 - S)) (by decide) (fun z => hv z.2)
          refine Or.inr ⟨_, _, C1, R1, fun m hm => ?_, fun m k hm => ?_, o1, t1, f1.mono (by decide), s1⟩
          · obtain ⟨m', rfl⟩ : ∃ m', m = m' + 1 := ⟨m - 1, by omega⟩
            rw [st m', k1, cl_some, if_pos rfl]
          · obtain ⟨m', rfl⟩ : ∃ m', m = m' + 1 + 1 := ⟨m - 2, by omega⟩
            rw [l53_a hr hx h8 (by omega) la c2]
            unfold rW
            rw [s10, show f_X12_takes Z Mr 0 (nI (10 - S)) = some (nI 0, R1) from q1, cl_some, nzI_n (by decide), putsE t1, cl_some, l53E t1]
            exact ⟨_, rfl⟩
      · obtain ⟨C1, k1, f1, o1⟩ := failC (Z := Z) (c := 1) hc0
        obtain ⟨R1, q1, s1, t1⟩ := failsR (Z := Z) hr (c := 1) (by decide) (by decide)
        refine Or.inr ⟨_, _, C1, R1, fun m hm => ?_, fun m k hm => ?_, o1, t1, f1.mono (by decide), s1⟩
        · obtain ⟨m', rfl⟩ : ∃ m', m = m' + 1 := ⟨m - 1, by omega⟩
          rw [f_X4_parseWeights_L22, if_neg n3, bd_eq, k3, if_pos rfl, rdI_n hx (by decide), m8, if_neg (by rw [nI_ilt (by omega) (by omega)]; exact la)]
          unfold kW
          rw [show (1 : Int32) = nI 1 from rfl, k1, cl_some, if_pos (by decide)]
        · obtain ⟨m', rfl⟩ : ∃ m', m = m' + 1 + 1 := ⟨m - 2, by omega⟩
          rw [l53_b hr hx h8 (by omega) (by omega) (fun z => la z.2) (Or.inr c2) q1]
          exact rWE t1
    · have a0 : a ≠ 0 := fun z => c2 (h0a z)
      refine Or.inl ⟨e, Q, S, Mc, Mr, fun m hm => ?_, fun m k hm => ?_, ⟨hc0, hq, hwx.all a0, hr⟩, hV, hS, hS10, fun i hi hci => ?_, fun _ _ => rfl, Nat.le_refl _, fr.rfl, fQ.rfl⟩
      · obtain ⟨m', rfl⟩ : ∃ m', m = m' + 1 := ⟨m - 1, by omega⟩
        rw [f_X4_parseWeights_L22, if_neg n3, bd_eq, hc0.2.1.1, if_neg (by rw [show (2 : Int32) = nI 2 from rfl, nI_eq (by omega) (by decide)]; exact c2)]
      · obtain ⟨m', rfl⟩ : ∃ m', m = m' + 1 := ⟨m - 1, by omega⟩
        exact l53_k hr (by omega) a0 c2
      · exact pn_n ((hwx.2.2 i hi).2 (by omega)).2 (by decide)
termination_by d => d
decreasing_by omega
