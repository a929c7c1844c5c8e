/-! the two parsers, together -/
def fQ2 (M M' : Mem) : Prop := fr [108, 113, 115] M M' ∧ ∀ k, k ∉ kQ → k ≠ 12 → gI M' 108 k = gI M 108 k
theorem VW.zero {Q : Nat → Int32} (h : ∀ i, i < 344 → Q i = nI 0) : VW Q := by
  refine ⟨fun i hi _ => ?_, fun r hr => ?_⟩
  · rw [h i hi, pn_n (h i hi) (by decide)]
    exact ⟨rfl, Nat.zero_le _⟩
  · rw [h _ (by omega), nI_toInt (by decide)]
    decide
theorem VQ.head {Q Q' : Nat → Int32} {N H : Nat} (h : ∀ i, i < 344 → Q i = nI 0) (hW : VW Q') (he : ∀ i, i ≠ 0 → i ≠ 3 → i ≠ 4 → Q' i = Q i) (h0 : Q' 0 = nI N) (hN : 1 ≤ N ∧ N ≤ 6) (h3 : Q' 3 = nI H) (hH : 1 ≤ H ∧ H ≤ 5) : VQ Q' := by
  have z : ∀ i, i < 344 → i ≠ 0 → i ≠ 3 → i ≠ 4 → Q' i = nI 0 := fun i hi a b c => (he i a b c).trans (h i hi)
  have zp : ∀ i, i < 344 → i ≠ 0 → i ≠ 3 → i ≠ 4 → pn Q' i = 0 := fun i hi a b c => pn_n (z i hi a b c) (by decide)
  have eN : cN Q' = N := pn_n h0 (by omega)
  have eM : ∀ x, x < 6 → cM Q' x = 0 := fun x hx => by
    unfold cM
    rw [if_pos hx]
    exact zp _ (by omega) (by omega) (by omega) (by omega)
  refine ⟨hW, ⟨by rw [eN]; exact hN.1, by rw [eN, zp 2 (by decide) (by decide) (by decide) (by decide)]; omega, by rw [pn_n h3 (by omega)]; exact hH.1⟩, fun x hx a ha => ?_, fun x hx => Or.inr ⟨z _ (by omega) (by omega) (by omega) (by omega), fun a ha => zp _ (by omega) (by omega) (by omega) (by omega)⟩⟩
  rw [eM x hx]
  refine ⟨fun z => absurd z (by omega), fun _ => ⟨?_, fun b hb => zp _ (by omega) (by omega) (by omega) (by omega), fun y => ?_⟩⟩
  · unfold cT
    rw [if_pos (by omega)]
    exact zp _ (by omega) (by omega) (by omega) (by omega)
  · by_cases c : y < 6
    · rw [cP_eq (by omega) c]
      exact zp _ (by omega) (by omega) (by omega) (by omega)
    · exact cP_hi (by omega)
theorem parse_sim {Z : Nat} {Mc Mr : Mem} {b : Nat → Nat} {n : Nat} (hZ : 4000 < Z) (hn : n ≤ 1200) (hC : ∀ i, i < n → b i < 256 ∧ gI Mc 2 i = bySg (b i)) (hR : ∀ i, i < n → b i < 256 ∧ gI Mr 114 i = nI (b i)) :
    (∃ e Q Mc' Mr', f_X4_parse Z Mc (nI n) = some (1, Mc') ∧ f_X12_reads Z Mr (nI n) = some ((), Mr') ∧ GCR b n e Q Mc' Mr' ∧ VQ Q ∧ (∀ x, x < cN Q → cM Q x ≠ 0) ∧ fr lP Mc Mc' ∧ fQ2 Mr Mr') ∨
    (∃ c p Mc' Mr', f_X4_parse Z Mc (nI n) = some (0, Mc') ∧ f_X12_reads Z Mr (nI n) = some ((), Mr') ∧ erC c p Mc' ∧ erR c p Mr' ∧ fr lP Mc Mc' ∧ fQ2 Mr Mr') := by
  -- the class begins
  have gC : ∃ C0, fr lP Mc C0 ∧ okC b n 0 C0 ∧ (∀ Q : Nat → Int32, (∀ i, i < 344 → Q i = nI 0) → CQ0 Q C0 ∧ CQW Q C0) ∧ f_X4_parse Z Mc (nI n) = cl (f_X4_parseHead Z C0) (fun v10 M11 => (if v10 = 0 then some ((0 : Int32), M11) else f_X4_parse_L48 Z (kC Z) Z (0 : Int32) M11)) := by
    have f0 : fr [21] Mc (sI (sI (sI Mc 21 2 (0 : Int32)) 21 3 (-1 : Int32)) 21 6 (0 : Int32)) := fr_sI (fr_sI (fr_sI fr.rfl (by decide)) (by decide)) (by decide)
    have q0 : gI (sI (sI (sI Mc 21 2 (0 : Int32)) 21 3 (-1 : Int32)) 21 6 (0 : Int32)) 21 6 = nI 0 ∧ gI (sI (sI (sI Mc 21 2 (0 : Int32)) 21 3 (-1 : Int32)) 21 6 (0 : Int32)) 21 2 = 0 ∧ gI (sI (sI (sI Mc 21 2 (0 : Int32)) 21 3 (-1 : Int32)) 21 6 (0 : Int32)) 21 3 = -1 := by
      refine ⟨?_, ?_, ?_⟩
      · rw [gI_sI, if_pos ⟨rfl, rfl⟩]; rfl
      · rw [gI_sI, if_neg (by decide), gI_sI, if_neg (by decide), gI_sI, if_pos ⟨rfl, rfl⟩]
      · rw [gI_sI, if_neg (by decide), gI_sI, if_pos ⟨rfl, rfl⟩]
    have un : f_X4_parse Z Mc (nI n) = cl (f_X0_clear Z (sI (sI (sI Mc 21 2 (0 : Int32)) 21 3 (-1 : Int32)) 21 6 (0 : Int32)) (22)) (fun v4 M5 => cl (f_X7_clear Z M5 (29)) (fun v6 M7 => cl (f_X2_begin Z M7 (nI n)) (fun v8 M9 => cl (f_X4_parseHead Z M9) (fun v10 M11 => (if v10 = 0 then some ((0 : Int32), M11) else f_X4_parse_L48 Z (kC Z) Z (0 : Int32) M11))))) := rfl
    generalize sI (sI (sI Mc 21 2 (0 : Int32)) 21 3 (-1 : Int32)) 21 6 (0 : Int32) = M0 at *
    obtain ⟨M1, e1, f1, c1, c2, c3, c4, c5, c6, c7⟩ := clearC (M := M0) hZ
    obtain ⟨M2, e2, f2, s1, s2, s3, s4⟩ := clearS (M := M1) hZ
    have f3 : fr [1] M2 (sI (sI M2 1 2 (nI n)) 1 5 (0 : Int32)) := fr_sI (fr_sI fr.rfl (by decide)) (by decide)
    have b2 : gI M2 2 = gI Mc 2 := by rw [f2.I (by decide), f1.I (by decide), f0.I (by decide)]
    have B3 : BC b n (sI (sI M2 1 2 (nI n)) 1 5 (0 : Int32)) := by
      refine ⟨hn, by rw [gI_sI, if_neg (by decide), gI_sI, if_pos ⟨rfl, rfl⟩], fun i hi => ?_⟩
      rw [f3.I (by decide), b2]
      exact hC i hi
    obtain ⟨M4, e4, f4, B4, T4⟩ := advance_ok (Z := Z) (e := 0) hZ B3 (Nat.zero_le _) (by rw [gI_sI, if_pos ⟨rfl, rfl⟩]; rfl)
    have be : f_X2_begin Z M2 (nI n) = some ((), M4) := by
      unfold f_X2_begin
      rw [bd_eq, if_neg (show ¬ (1200 : Int32) < nI n by rw [show (1200 : Int32) = nI 1200 from rfl, nI_ilt (by decide) (by omega)]; omega), bd_eq, bd_eq, e4, cl_some]
    have f24 : fr [1] M2 M4 := f3.trans f4
    refine ⟨M4, (((f0.mono (by decide)).trans (f1.mono (by decide))).trans (f2.mono (by decide))).trans (f24.mono (by decide)), ⟨B4, T4, Nat.zero_le _⟩, fun Q hQ => ⟨⟨⟨?_, ?_, fun x hx => ?_, fun r hr => ?_, fun k hk => ?_, fun k hk => ?_, fun r hr => ?_, fun r hr k hk => ?_⟩, ⟨?_, ?_, ?_, ?_⟩, fun k hk => ?_, fun x hx => ?_, 0, by decide, ?_, fun x hx => ?_⟩, fun x hx a ha => ?_⟩, ?_⟩
    · rw [f24.I (by decide), f2.I (by decide), hQ 0 (by decide)]; exact c1.1
    · rw [f24.I (by decide), f2.I (by decide), hQ 1 (by decide)]; exact c1.2
    · rw [f24.I (by decide), f2.I (by decide), hQ _ (by omega)]; exact c2 x hx
    · rw [f24.I (by decide), f2.I (by decide), hQ _ (by omega)]; exact c3 r hr
    · rw [f24.I (by decide), f2.I (by decide), hQ _ (by omega)]; exact c4 k hk
    · rw [f24.I (by decide), f2.I (by decide), hQ _ (by omega)]; exact c5 k hk
    · rw [f24.I (by decide), f2.I (by decide), hQ _ (by omega)]; exact c7 r hr
    · unfold cT at hk
      rw [if_pos hr, pn_n (hQ (194 + r) (by omega)) (by decide)] at hk
      exact absurd hk (by omega)
    · rw [f24.I (by decide), hQ 2 (by decide)]; exact s1.1
    · rw [f24.I (by decide), hQ 3 (by decide)]; exact s1.2.1
    · rw [f24.I (by decide), hQ 4 (by decide)]; exact s1.2.2.1
    · rw [f24.I (by decide)]; exact s1.2.2.2
    · rw [f24.I (by decide), hQ _ (by omega)]; exact s4 k hk
    · rw [f24.I (by decide)]; exact s3 x hx
    · rw [f24.I (by decide), f2.I (by decide), f1.I (by decide)]
      exact q0
    · rw [hQ _ (by omega), Nat.zero_div, Nat.zero_mod]
    · rw [f24.I (by decide), hQ (320 + x) (by omega), if_neg (by decide)]
      exact s2 x hx a ha
    · rw [un, e1, cl_some, e2, cl_some, be, cl_some]
  obtain ⟨C0, FC0, oC0, qC0, eC⟩ := gC
  -- the reference begins
  have gR : ∃ R0 Q, fQ2 Mr R0 ∧ okR b n 0 Q R0 ∧ (∀ i, i < 344 → Q i = nI 0) ∧ f_X12_reads Z Mr (nI n) = rHead Z R0 (fun M24 => f_X12_reads_L94 Z (rTail Z) Z M24) := by
    have f0 : fr [108] Mr (sI (sI (sI (sI Mr 108 12 (nI n)) 108 13 (0 : Int32)) 108 19 (0 : Int32)) 108 20 (-1 : Int32)) := fr_sI (fr_sI (fr_sI (fr_sI fr.rfl (by decide)) (by decide)) (by decide)) (by decide)
    have k0 : ∀ k, k ∉ kQ → k ≠ 12 → gI (sI (sI (sI (sI Mr 108 12 (nI n)) 108 13 (0 : Int32)) 108 19 (0 : Int32)) 108 20 (-1 : Int32)) 108 k = gI Mr 108 k := fun k hk h12 => by
      have a1 : k ≠ 13 := fun z => hk (by rw [z]; decide)
      have a2 : k ≠ 19 := fun z => hk (by rw [z]; decide)
      have a3 : k ≠ 20 := fun z => hk (by rw [z]; decide)
      rw [gI_sI, if_neg (fun z => a3 z.2), gI_sI, if_neg (fun z => a2 z.2), gI_sI, if_neg (fun z => a1 z.2), gI_sI, if_neg (fun z => h12 z.2)]
    have v12 : gI (sI (sI (sI (sI Mr 108 12 (nI n)) 108 13 (0 : Int32)) 108 19 (0 : Int32)) 108 20 (-1 : Int32)) 108 12 = nI n := by rw [gI_sI, if_neg (by decide), gI_sI, if_neg (by decide), gI_sI, if_neg (by decide), gI_sI, if_pos ⟨rfl, rfl⟩]
    have v13 : gI (sI (sI (sI (sI Mr 108 12 (nI n)) 108 13 (0 : Int32)) 108 19 (0 : Int32)) 108 20 (-1 : Int32)) 108 13 = nI 0 := by rw [gI_sI, if_neg (by decide), gI_sI, if_neg (by decide), gI_sI, if_pos ⟨rfl, rfl⟩]; rfl
    have v19 : gI (sI (sI (sI (sI Mr 108 12 (nI n)) 108 13 (0 : Int32)) 108 19 (0 : Int32)) 108 20 (-1 : Int32)) 108 19 = nI 0 := by rw [gI_sI, if_neg (by decide), gI_sI, if_pos ⟨rfl, rfl⟩]; rfl
    rw [reads_eq, bd_eq, bd_eq, bd_eq, bd_eq]
    generalize sI (sI (sI (sI Mr 108 12 (nI n)) 108 13 (0 : Int32)) 108 19 (0 : Int32)) 108 20 (-1 : Int32) = M0 at *
    obtain ⟨M1, e1, f1, z1⟩ := zero_ok (M := M0) hZ (fun (M8 : Mem) => cl (f_X12_token Z M8) (fun v9 M10 => rHead Z M10 (fun M24 => f_X12_reads_L94 Z (rTail Z) Z M24)))
    have B1 : BR b n M1 := by
      refine ⟨hn, by rw [f1.I (by decide)]; exact v12, fun i hi => ?_⟩
      rw [f1.I (by decide), f0.I (by decide)]
      exact hR i hi
    obtain ⟨M2, e2, f2, B2, T2⟩ := token_ok (e := 0) hZ B1 (Nat.zero_le _) (by rw [f1.I (by decide)]; exact v13)
    refine ⟨M2, gI M2 113, ⟨((f0.mono (by decide)).trans (f1.mono (by decide))).trans (f2.1.mono (by decide)), fun k hk h12 => ?_⟩, ⟨B2, T2, by rw [f2.2 19 (by decide), f1.I (by decide)]; exact v19, rfl, Nat.zero_le _⟩, fun i hi => by rw [f2.1.I (by decide)]; exact z1 i hi, ?_⟩
    · rw [f2.q.2.1 k hk, f1.I (by decide)]
      exact k0 k hk h12
    · rw [e1, e2, cl_some]
  obtain ⟨R0, Q, FR0, oR0, hQ0, eR⟩ := gR
  have V0 := VW.zero hQ0
  have sm : sm0 R0 := ⟨0, by decide, by rw [oR0.2.2.2.1]; exact hQ0 0 (by decide)⟩
  have t2 : ∀ {M1 M2 : Mem}, fQ M1 M2 → fQ2 Mr M1 → fQ2 Mr M2 := fun a d => ⟨d.1.trans a.1, fun k hk h12 => (a.2.1 k hk).trans (d.2 k hk h12)⟩
  obtain ⟨qa, qb⟩ := qC0 Q hQ0
  rw [eC, eR]
  rcases head_sim hZ ⟨oC0, qa, qb, oR0⟩ V0.T with ⟨e1, N, H, s, C1, R1, k1, q1, g1, hN, hH, hs, F1, G1⟩ | ⟨c, p, C1, R1, k1, q1, oC, oR, F1, G1⟩
  · rw [k1, cl_some, if_neg (by decide), q1]
    have V1 : VQ (upd (upd (upd Q 0 (nI N)) 3 (nI H)) 4 (nI s)) := by
      refine VQ.head (N := N) (H := H) hQ0 (((V0.put (by omega) (show N ≤ mxq 0 from hN.2)).put (by omega) (show H ≤ mxq 3 from hH.2)).put (by omega) (show s ≤ mxq 4 from hs)) (fun i a b c => by rw [upd_ne c, upd_ne b, upd_ne a]) (by rw [upd_ne (by omega), upd_ne (by omega), upd_eq]) hN (by rw [upd_ne (by omega), upd_eq]) hH
    rcases lines_all hZ hn 1200 0 e1 _ C1 R1 (by omega) (Nat.zero_le _) V1 g1 with ⟨e2, Q2, C2, R2, k2, q2, g2, V2, t4, F2, G2⟩ | ⟨c, p, C2, R2, k2, q2, oC, oR, F2, G2⟩
    · rw [show f_X4_parse_L48 Z (kC Z) Z (0 : Int32) C1 = _ from k2 Z (kC Z) (by omega), q2 Z (rTail Z) (by omega)]
      rcases end_sim hZ g2 V2 with ⟨k3, q3, h3⟩ | ⟨c, p, C3, R3, k3, q3, oC, oR, F3, G3⟩
      · exact Or.inl ⟨e2, Q2, C2, R2, k3, q3, g2, V2, h3, (FC0.trans F1).trans F2, t2 G2 (t2 G1 FR0)⟩
      · exact Or.inr ⟨c, p, C3, R3, k3, q3, oC, oR, ((FC0.trans F1).trans F2).trans F3, t2 G3 (t2 G2 (t2 G1 FR0))⟩
    · rw [show f_X4_parse_L48 Z (kC Z) Z (0 : Int32) C1 = _ from k2 Z (kC Z) (by omega), q2 Z (rTail Z) (by omega)]
      exact Or.inr ⟨c, p, C2, R2, rfl, rTailE hZ oR (G2.2.2 (G1.2.2 sm)), oC, oR, (FC0.trans F1).trans F2, t2 G2 (t2 G1 FR0)⟩
  · obtain ⟨z, rfl⟩ : ∃ z, Z = z + 1 := ⟨Z - 1, by omega⟩
    refine Or.inr ⟨c, p, C1, R1, by rw [k1, cl_some, if_pos rfl], ?_, oC, oR, FC0.trans F1, t2 G1 FR0⟩
    rw [q1, f_X12_reads_L94, bd_eq, if_neg (er_ne oR)]
    exact rTailE hZ oR (G1.2.2 sm)
