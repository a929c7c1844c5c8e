/-! fields of a nest mate -/
def NLk (own : String) (idx ci k kind : Nat) : Prop := ∃ C T N h, vwCl[ci]? = some (C, T, N) ∧ k < N ∧ kFd ci k = kind ∧ (∀ w ∈ u_ws C T N, Gd w) ∧ Gd (.fieldLinkNest own idx (T k).1 (T k).2.1 (T k).2.2.1 h)
def NPk (own : String) (idx ci k kind : Nat) (ok : Value → Prop) : Prop := ∃ C T N h, ∃ t : Nat → FieldType, vwCl[ci]? = some (C, T, N) ∧ k < N ∧ kFd ci k = kind ∧ (∀ w ∈ u_ws C T N, Gd w) ∧ Gd (.fieldLinkNest own idx (T k).1 (T k).2.1 (T k).2.2.1 h) ∧
  (T k).2.2.2 = false ∧ (∀ k, k < N → parseFieldDescriptor (T k).2.2.1 = some (t k)) ∧ (∀ a, a < N → ∀ b, b < N → a ≠ b → (T a).2.1 ≠ (T b).2.1) ∧ (∀ v, ok v → narrow (t k) v = v ∧ fits (t k) v = true)
section Nest
variable {Γ : WC} {X : MX} {M : Mem} {cs sl : Nat} {L : List (Option Value)} {st : List Value} {pc : Nat} {cc : ByteArray} {nL : Nat} {own : String} {ret : Option FieldType} {R0 : Room} {β : Type} {rM : β}
theorem x_getIn (C : CX Γ X cc nL own ret R0) {o n idx ci k : Nat} {kk : Int32 → Option β} (lk : NLk own idx ci k 0) (hs : On Γ o (ci + 6, n)) (d : decode cc pc = .ok (.getfield idx, 3)) (q : Nat) (hq : pc + 3 = q) (hf : bd (gI M o k) kk = some rM) (K : ∀ v, kk v = some rM → G Γ X M cs sl L (.int v :: st) q) : G Γ X M cs sl L (.ref (wad Γ o) :: st) pc := by
  subst hq
  obtain ⟨p, e, R, s, m, args, below, meth, c, Q⟩ := X
  obtain ⟨hx, hb, hml, hown, hts, hW, hlk, hret, hR, hK, hSs, hG⟩ := C
  intro H locs ls a1 a2 a3 a4 a5
  obtain ⟨C, T, N, h9, h1, h2, h3, h4, h5⟩ := lk
  have hv : (fsO (wad Γ) M o ci)[k]? = some (.int (gI M o k)) := by
    rw [fsO_at (by rw [nFd_of h1]; exact h2), h3]
    rfl
  exact va_getN hx hb (Ts := u_ws C T N) (fun w hw => hts w (h4 w hw)) (fun w h => h) hown hK a2 _ (wO_at hs) h1 k h2 (hts _ h5) (fun _ h => h) hv d (K _ hf H locs ls a1 a2 a3 a4 a5)
theorem x_getSn (C : CX Γ X cc nL own ret R0) {o n idx ci k j : Nat} (lk : NLk own idx ci k 2) (hs : On Γ o (ci + 6, n)) (hr : ∀ M, wK Γ M → gR M o k = some j) (d : decode cc pc = .ok (.getfield idx, 3)) (q : Nat) (hq : pc + 3 = q) (K : G Γ X M cs sl L (.ref (wad Γ j) :: st) q) : G Γ X M cs sl L (.ref (wad Γ o) :: st) pc := by
  subst hq
  obtain ⟨p, e, R, s, m, args, below, meth, c, Q⟩ := X
  obtain ⟨hx, hb, hml, hown, hts, hW, hlk, hret, hR, hK, hSs, hG⟩ := C
  intro H locs ls a1 a2 a3 a4 a5
  obtain ⟨C, T, N, h9, h1, h2, h3, h4, h5⟩ := lk
  have hv : (fsO (wad Γ) M o ci)[k]? = some (.ref (wad Γ j)) := by
    rw [fsO_at (by rw [nFd_of h1]; exact h2), h3]
    simp only [fVal, hr M a1, Option.map_some, va_rf]
  exact va_getN hx hb (Ts := u_ws C T N) (fun w hw => hts w (h4 w hw)) (fun w h => h) hown hK a2 _ (wO_at hs) h1 k h2 (hts _ h5) (fun _ h => h) hv d (K H locs ls a1 a2 a3 a4 a5)
theorem x_putIn (C : CX Γ X cc nL own ret R0) {o n idx ci k : Nat} {v : Int32} {kk : Mem → Option β} {ok : Value → Prop} (lk : NPk own idx ci k 0 ok) (hok : ok (.int v)) (hs : On Γ o (ci + 6, n)) (d : decode cc pc = .ok (.putfield idx, 3)) (q : Nat) (hq : pc + 3 = q) (hf : bd (sI M o k v) kk = some rM) (K : ∀ M1, kk M1 = some rM → G Γ X M1 cs sl L st q) : G Γ X M cs sl L (.int v :: .ref (wad Γ o) :: st) pc := by
  subst hq
  obtain ⟨p, e, R, s, m, args, below, meth, c, Q⟩ := X
  obtain ⟨hx, hb, hml, hown, hts, hW, hlk, hret, hR, hK, hSs, hG⟩ := C
  intro H locs ls a1 a2 a3 a4 a5
  obtain ⟨C, T, N, h10, t9, h1, h2, h3, h4, h5, h6, h7, h8, h9⟩ := lk
  obtain ⟨z1, z2⟩ := h9 _ hok
  have hkN : k < nFd ci := by rw [nFd_of h1]; exact h2
  refine va_putN hx hb (Ts := u_ws C T N) (fun w hw => hts w (h4 w hw)) (fun w h => h) t9 h7 h8 hown hK a2 a3 a4 (px Γ o) (wO_at hs) h1 k h2 (hts _ h5) (fun _ h => h) h6 (h7 k h2) z1 z2 (by rw [fsO_len]; exact hkN) d (fun H1 locs1 hP1 hD1 hS1 => ?_)
  have e0 : (fsO (wad Γ) M o ci).set k (.int v) = fsO (wad Γ) (sI M o k v) o ci := by
    have := fsO_set (ad := wad Γ) (M := M) (M' := sI M o k v) (o := o) (ci := ci) hkN (fun j q hj => by simp only [fVal]; split <;> first | (rw [gI_sI, if_neg (fun z => hj z.2)]; done) | rfl)
    rw [h3] at this
    simp only [fVal, gI_sI, and_self, if_true] at this; exact this
  have e1 : (wO Γ M).set (px Γ o) (wad Γ o, cE (wA Γ) (wad Γ) (sI M o k v) o (ci + 6, n)) = wO Γ (sI M o k v) := wO_set hs (fun a ha q => cE_sI ha q)
  have e3 : cE (wA Γ) (wad Γ) (sI M o k v) o (ci + 6, n) = (Sum.inr (ci, (fsO (wad Γ) M o ci).set k (.int v)) : va_E) := by
    rw [e0]; rfl
  rw [← e3, e1] at hP1 hD1
  exact K _ hf H1 locs1 ls (hG.kw M _ (fun _ _ => rfl) a1) hP1 hD1 hS1 a5
end Nest
theorem lk_RX12_55 : FLk RX12 55 12 15 2 := ⟨_, _, _, rc12, by decide, by decide +kernel, uw12, gd 756 (by decide +kernel) rfl⟩
theorem lk_RX12_58 : FLk RX12 58 12 16 2 := ⟨_, _, _, rc12, by decide, by decide +kernel, uw12, gd 758 (by decide +kernel) rfl⟩
theorem nlk_RL_133 : NLk RL 133 12 1 0 := ⟨_, _, _, "DecisionChainLaw", rc12, by decide, by decide +kernel, uw12, gd 732 (by decide +kernel) rfl⟩
theorem ln_RL_221 : Gd (.methodLink RL 221 yX12_step) := gd 1605 (by decide +kernel) rfl
theorem ln_RL_224 : Gd (.methodLink RL 224 yL_hit) := gd 1602 (by decide +kernel) rfl
theorem ln_RX12_126 : Gd (.methodLink RX12 126 yX12_step) := gd 1546 (by decide +kernel) rfl
theorem ln_RX12_131 : Gd (.methodLink RX12 131 yX12_mean) := gd 1572 (by decide +kernel) rfl
theorem ln_RX12_141 : Gd (.methodLink RX12 141 yX12_draw) := gd 1521 (by decide +kernel) rfl
theorem mw_L_hit : MW yL_hit cL_hit 9 (some .long) 4 := ⟨gd 46 (by decide +kernel) rfl, gd 1604 (by decide +kernel) rfl, ⟨by decide, by decide⟩, by decide +kernel⟩
theorem mw_X12_draw : MW yX12_draw cX12_draw 2 (some .int) 1 := ⟨gd 48 (by decide +kernel) rfl, gd 1524 (by decide +kernel) rfl, ⟨by decide, by decide⟩, by decide +kernel⟩
theorem mw_X12_mean : MW yX12_mean cX12_mean 9 (some .long) 3 := ⟨gd 48 (by decide +kernel) rfl, gd 1571 (by decide +kernel) rfl, ⟨by decide, by decide⟩, by decide +kernel⟩
theorem mw_X12_step : MW yX12_step cX12_step 5 (some .int) 2 := ⟨gd 48 (by decide +kernel) rfl, gd 1549 (by decide +kernel) rfl, ⟨by decide, by decide⟩, by decide +kernel⟩
theorem mi_X12_draw : (Gd (.instanceMethod yX12_draw) ∧ Gd (.selects yX12_draw.cls yX12_draw yX12_draw)) := ⟨gd 1522 (by decide +kernel) rfl, gd 1523 (by decide +kernel) rfl⟩
theorem mi_X12_mean : (Gd (.instanceMethod yX12_mean) ∧ Gd (.selects yX12_mean.cls yX12_mean yX12_mean)) := ⟨gd 1569 (by decide +kernel) rfl, gd 1570 (by decide +kernel) rfl⟩
theorem mi_X12_step : (Gd (.instanceMethod yX12_step) ∧ Gd (.selects yX12_step.cls yX12_step yX12_step)) := ⟨gd 1547 (by decide +kernel) rfl, gd 1548 (by decide +kernel) rfl⟩
theorem ms_L_hit : Gd (.static yL_hit) := gd 1603 (by decide +kernel) rfl
theorem cl_RL_219 : Gd (.constantLong RL 219 (1000 : Int64)) := gd 1550 (by decide +kernel) rfl
theorem cl_RX12_129 : Gd (.constantLong RX12 129 (1000 : Int64)) := gd 1563 (by decide +kernel) rfl
theorem cl_RX12_135 : Gd (.constantLong RX12 135 (10 : Int64)) := gd 1562 (by decide +kernel) rfl
def f_X12_step_L5 (sh : Nat → Option SE) (Z : Nat) (M : Mem) (p0 : Int32) (p1 : Int32) : Nat → Int32 → Int32 → Option (Int32 × Mem)
  | 0, _, _ => none
  | n + 1, x1, x2 => rdI M 111 6 p0 (fun v3 => (if v3 ≤ x2 then some (x1, M) else rdQ M 119 6 p0 sh (0, 3) (fun o4 => rdI M o4 3 x2 (fun v5 => rdQ M 151 6 p0 sh (5, 1003) (fun o6 => rdQ M o6 3 x2 sh (0, 6) (fun o7 => rdI M o7 6 p1 (fun v8 => f_X12_step_L5 sh Z M p0 p1 n (x1 + (v5 * v8)) (x2 + (1 : Int32)))))))))
def f_X12_step (sh : Nat → Option SE) (Z : Nat) (M : Mem) (p0 : Int32) (p1 : Int32) : Option (Int32 × Mem) :=
  f_X12_step_L5 sh Z M p0 p1 Z (0 : Int32) (0 : Int32)
set_option maxRecDepth 100000 in
theorem l_X12_step_L5 {Γ : WC} {X : MX} {sh : Nat → Option SE} (hL : HLa Γ sh) (C : CX Γ X cX12_step 5 RX12 (some .int) (rmL 1 0 (6 * 0))) {rM : Int32 × Mem} (E : EndN Γ X (some (.int rM.1)) rM.2 0 (6 * 0)) {Z : Nat} {M : Mem} {p0 : Int32} {p1 : Int32} : ∀ (n : Nat) (x1 : Int32) (x2 : Int32), f_X12_step_L5 sh Z M p0 p1 n x1 x2 = some rM → G Γ X M (0) (6 * (0)) [some (.ref (wad Γ 109)), some (.int p0), some (.int p1), some (.int x1), some (.int x2)] [] 5 := by
  intro n
  induction n with
  | zero =>
    intro x1 x2 hf
    have hf0 : (none : Option _) = some rM := hf
    cases hf0
  | succ n ih =>
    intro x1 x2 hf
    rw [f_X12_step_L5] at hf
    refine x_iload C rfl (dkAt dk_X12_step 4 rfl) 7 rfl ?_
    refine x_aload_n C rfl rfl (dkAt dk_X12_step 5 rfl) 8 rfl ?_
    refine x_getS C lk_RX12_24 (hL.2.1 109 (18, 17) rfl) (hL.2.2.2 109 7 111 rfl) (dkAt dk_X12_step 6 rfl) 11 rfl ?_
    refine x_iload_n C rfl rfl (dkAt dk_X12_step 7 rfl) 12 rfl ?_
    refine x_iald C (hL.2.1 111 (0, 6) rfl) (dkAt dk_X12_step 8 rfl) 13 rfl hf (fun v3 hf => ?_)
    refine x_icmp_ge C 46 (dkAt dk_X12_step 9 rfl) 16 rfl (by decide) hf (fun hf => ?_) (fun hf => ?_)
    · refine x_iload_n C rfl rfl (dkAt dk_X12_step 30 rfl) 47 rfl ?_
      exact x_iret C E hf (by decide) (by decide) (dkAt dk_X12_step 31 rfl)
    · refine x_iload_n C rfl rfl (dkAt dk_X12_step 10 rfl) 17 rfl ?_
      refine x_aload_n C rfl rfl (dkAt dk_X12_step 11 rfl) 18 rfl ?_
      refine x_getS C lk_RX12_32 (hL.2.1 109 (18, 17) rfl) (hL.2.2.2 109 9 119 rfl) (dkAt dk_X12_step 12 rfl) 21 rfl ?_
      refine x_iload_n C rfl rfl (dkAt dk_X12_step 13 rfl) 22 rfl ?_
      refine x_qald C (k9 := 1) (n := 6) (by decide) (by decide) (hL.2.1 119 (5, 1006) rfl) (dkAt dk_X12_step 14 rfl) 23 rfl hf (fun o4 h_o4 hf => ?_)
      refine x_iload C rfl (dkAt dk_X12_step 15 rfl) 25 rfl ?_
      refine x_iald C (hL.2.2.1 _ _ h_o4) (dkAt dk_X12_step 16 rfl) 26 rfl hf (fun v5 hf => ?_)
      refine x_aload_n C rfl rfl (dkAt dk_X12_step 17 rfl) 27 rfl ?_
      refine x_getS C lk_RX12_40 (hL.2.1 109 (18, 17) rfl) (hL.2.2.2 109 11 151 rfl) (dkAt dk_X12_step 18 rfl) 30 rfl ?_
      refine x_iload_n C rfl rfl (dkAt dk_X12_step 19 rfl) 31 rfl ?_
      refine x_qald C (k9 := 2) (n := 6) (by decide) (by decide) (hL.2.1 151 (5, 2006) rfl) (dkAt dk_X12_step 20 rfl) 32 rfl hf (fun o6 h_o6 hf => ?_)
      refine x_iload C rfl (dkAt dk_X12_step 21 rfl) 34 rfl ?_
      refine x_qald C (k9 := 1) (n := 3) (by decide) (by decide) (hL.2.2.1 _ _ h_o6) (dkAt dk_X12_step 22 rfl) 35 rfl hf (fun o7 h_o7 hf => ?_)
      refine x_iload_n C rfl rfl (dkAt dk_X12_step 23 rfl) 36 rfl ?_
      refine x_iald C (hL.2.2.1 _ _ h_o7) (dkAt dk_X12_step 24 rfl) 37 rfl hf (fun v8 hf => ?_)
      refine x_imul C (dkAt dk_X12_step 25 rfl) 38 rfl ?_
      refine x_iadd C (dkAt dk_X12_step 26 rfl) 39 rfl ?_
      refine x_istore_n C (L1 := [some (.ref (wad Γ 109)), some (.int p0), some (.int p1), some (.int (x1 + (v5 * v8))), some (.int x2)]) (dkAt dk_X12_step 27 rfl) 40 rfl rfl (by decide) rfl ?_
      refine x_iinc C (v := (x2 + (1 : Int32))) (L1 := [some (.ref (wad Γ 109)), some (.int p0), some (.int p1), some (.int (x1 + (v5 * v8))), some (.int (x2 + (1 : Int32)))]) (dkAt dk_X12_step 28 rfl) 43 rfl rfl rfl (by decide) rfl ?_
      refine x_goto C 5 (dkAt dk_X12_step 29 rfl) (by decide) ?_
      exact G.weak (L := [some (.ref (wad Γ 109)), some (.int p0), some (.int p1), some (.int (x1 + (v5 * v8))), some (.int (x2 + (1 : Int32)))]) ⟨rfl, rfl, rfl, rfl, rfl, trivial⟩ (ih _ _ hf)
set_option maxRecDepth 100000 in
theorem c_X12_step {Γ : WC} {sh : Nat → Option SE} (hL : HLa Γ sh) {Z : Nat} {M : Mem} {p0 : Int32} {p1 : Int32} {rM : Int32 × Mem} (hf : f_X12_step sh Z M p0 p1 = some rM) : Ct Γ yX12_step cX12_step 5 (some .int) (rmL 1 0 (6 * 0)) [.ref (wad Γ 109), .int p0, .int p1] M (some (.int rM.1)) rM.2 := by
  refine mkN hL.1.1 (own := RX12) rfl (by decide) (Nat.le_of_ble_eq_true rfl) (fun X C E => ?_)
  change G Γ X M (0) (6 * (0)) [some (.ref (wad Γ 109)), some (.int p0), some (.int p1)] [] 0
  unfold f_X12_step at hf
  refine x_iconst C (v := (0 : Int32)) (by decide) (dkAt dk_X12_step 0 rfl) 1 rfl ?_
  refine x_istore_n C (L1 := [some (.ref (wad Γ 109)), some (.int p0), some (.int p1), some (.int (0 : Int32))]) (dkAt dk_X12_step 1 rfl) 2 rfl rfl (by decide) rfl ?_
  refine x_iconst C (v := (0 : Int32)) (by decide) (dkAt dk_X12_step 2 rfl) 3 rfl ?_
  refine x_istore C (L1 := [some (.ref (wad Γ 109)), some (.int p0), some (.int p1), some (.int (0 : Int32)), some (.int (0 : Int32))]) (dkAt dk_X12_step 3 rfl) 5 rfl (by decide) rfl ?_
  refine G.weak (L := [some (.ref (wad Γ 109)), some (.int p0), some (.int p1), some (.int (0 : Int32)), some (.int (0 : Int32))]) ⟨rfl, rfl, rfl, rfl, rfl, trivial⟩ ?_
  refine l_X12_step_L5 hL C E Z _ _ hf
def f_X12_mean_L15 (sh : Nat → Option SE) (Z : Nat) (rc : Mem → Int32 → Int32 → Int32 → Option (Int64 × Mem)) (M : Mem) (p0 : Int32) (p1 : Int32) (p2 : Int32) (k : Int64 → Option (Int64 × Mem)) : Nat → Int64 → Int32 → Option (Int64 × Mem)
  | 0, _, _ => none
  | n + 1, x1, x2 => (if p1 ≤ x2 then k x1 else f_X12_mean_L15 sh Z rc M p0 p1 p2 k n (x1 * (1000 : Int64)) (x2 + (1 : Int32)))
def f_X12_mean_L38 (sh : Nat → Option SE) (Z : Nat) (rc : Mem → Int32 → Int32 → Int32 → Option (Int64 × Mem)) (M : Mem) (p0 : Int32) (p1 : Int32) (p2 : Int32) (y3 : Int64) (k : Int64 → Option (Int64 × Mem)) : Nat → Int64 → Int32 → Option (Int64 × Mem)
  | 0, _, _ => none
  | n + 1, x4, x5 => rdI M 111 6 p0 (fun v6 => (if v6 ≤ x5 then k x4 else rdQ M 119 6 p0 sh (0, 3) (fun o7 => rdI M o7 3 x5 (fun v8 => jn (fun (t9 : Int32) => f_X12_mean_L38 sh Z rc M p0 p1 p2 y3 k n (x4 + ((v8.toInt64 * t9.toInt64) * y3)) (x5 + (1 : Int32))) (fun j10 => (if 0 ≤ p2 then rdQ M 126 6 p0 sh (5, 1003) (fun o11 => rdQ M o11 3 x5 sh (0, 3) (fun o12 => rdI M o12 3 p2 (fun v13 => j10 v13))) else rdQ M 112 6 p0 sh (0, 3) (fun o14 => rdI M o14 3 x5 (fun v15 => j10 v15))))))))
def f_X12_mean_L105 (sh : Nat → Option SE) (Z : Nat) (rc : Mem → Int32 → Int32 → Int32 → Option (Int64 × Mem)) (p0 : Int32) (p1 : Int32) (p2 : Int32) : Nat → Int64 → Int32 → Mem → Option (Int64 × Mem)
  | 0, _, _, _ => none
  | n + 1, x17, x18, M19 => bd (gI M19 (109) 1) (fun v20 => (if v20 ≤ x18 then some (x17, M19) else (if p1 ≤ (1 : Int32) then some (x17, M19) else cl (f_X12_step sh Z M19 p0 x18) (fun v21 M22 => jn (fun (t24 : Int64 × Mem) => f_X12_mean_L105 sh Z rc p0 p1 p2 n t24.1 (x18 + (1 : Int32)) t24.2) (fun j25 => (if v21 ≤ 0 then j25 (x17, M22) else cl (f_X12_step sh Z M22 p0 x18) (fun v26 M27 => cl (rc M27 x18 (p1 - (1 : Int32)) p2) (fun v29 M30 => j25 ((x17 + (v26.toInt64 * v29)), M30)))))))))
def f_X12_mean_B (sh : Nat → Option SE) (Z : Nat) (rc : Mem → Int32 → Int32 → Int32 → Option (Int64 × Mem)) (M : Mem) (p0 : Int32) (p1 : Int32) (p2 : Int32) : Option (Int64 × Mem) :=
  (if p1 = 0 then some ((0 : Int64), M) else f_X12_mean_L15 sh Z rc M p0 p1 p2 (fun (y3 : Int64) => f_X12_mean_L38 sh Z rc M p0 p1 p2 y3 (fun (y16 : Int64) => f_X12_mean_L105 sh Z rc p0 p1 p2 Z y16 (0 : Int32) M) Z (0 : Int64) (0 : Int32)) Z (1 : Int64) (1 : Int32))
set_option maxRecDepth 100000 in
theorem l_X12_mean_L15 {Γ : WC} {X : MX} {sh : Nat → Option SE} (hL : HLa Γ sh) {nR : Nat} {rc : Mem → Int32 → Int32 → Int32 → Option (Int64 × Mem)} (ihr : ∀ (M : Mem) (p0 : Int32) (p1 : Int32) (p2 : Int32) (rM : Int64 × Mem), rc M p0 p1 p2 = some rM → Ct Γ yX12_mean cX12_mean 9 (some .long) (rmL (nR + 1) 0 0) [.ref (wad Γ 109), .int p0, .int p1, .int p2] M (some (.long rM.1)) rM.2) (C : CX Γ X cX12_mean 9 RX12 (some .long) (rmL (nR + 2) 0 0)) {rM : Int64 × Mem} (E : EndN Γ X (some (.long rM.1)) rM.2 0 (6 * 0)) {Z : Nat} {M : Mem} {p0 : Int32} {p1 : Int32} {p2 : Int32} {k : Int64 → Option (Int64 × Mem)} (hk : ∀ (a4 : Int64), k a4 = some rM → G Γ X M (0) (6 * (0)) [some (.ref (wad Γ 109)), some (.int p0), some (.int p1), some (.int p2), some (.long a4), none, some (.long (0 : Int64))] [] 35) : ∀ (n : Nat) (x1 : Int64) (x2 : Int32), f_X12_mean_L15 sh Z rc M p0 p1 p2 k n x1 x2 = some rM → G Γ X M (0) (6 * (0)) [some (.ref (wad Γ 109)), some (.int p0), some (.int p1), some (.int p2), some (.long x1), none, some (.long (0 : Int64)), none, some (.int x2)] [] 15 := by
  intro n
  induction n with
  | zero =>
    intro x1 x2 hf
    have hf0 : (none : Option _) = some rM := hf
    cases hf0
  | succ n ih =>
    intro x1 x2 hf
    rw [f_X12_mean_L15] at hf
    refine x_iload C rfl (dkAt dk_X12_mean 10 rfl) 17 rfl ?_
    refine x_iload_n C rfl rfl (dkAt dk_X12_mean 11 rfl) 18 rfl ?_
    refine x_icmp_ge C 35 (dkAt dk_X12_mean 12 rfl) 21 rfl (by decide) hf (fun hf => ?_) (fun hf => ?_)
    · exact G.weak (L := [some (.ref (wad Γ 109)), some (.int p0), some (.int p1), some (.int p2), some (.long x1), none, some (.long (0 : Int64))]) ⟨rfl, rfl, rfl, rfl, rfl, rfl, trivial⟩ (hk _ hf)
    · refine x_lload C rfl (dkAt dk_X12_mean 13 rfl) 23 rfl ?_
      refine x_ldc2 C (v := (1000 : Int64)) cl_RX12_129 (dkAt dk_X12_mean 14 rfl) 26 rfl ?_
      refine x_lmul C (dkAt dk_X12_mean 15 rfl) 27 rfl ?_
      refine x_lstore C (L1 := [some (.ref (wad Γ 109)), some (.int p0), some (.int p1), some (.int p2), some (.long (x1 * (1000 : Int64))), none, some (.long (0 : Int64)), none, some (.int x2)]) (dkAt dk_X12_mean 16 rfl) 29 rfl (by decide) rfl ?_
      refine x_iinc C (v := (x2 + (1 : Int32))) (L1 := [some (.ref (wad Γ 109)), some (.int p0), some (.int p1), some (.int p2), some (.long (x1 * (1000 : Int64))), none, some (.long (0 : Int64)), none, some (.int (x2 + (1 : Int32)))]) (dkAt dk_X12_mean 17 rfl) 32 rfl rfl rfl (by decide) rfl ?_
      refine x_goto C 15 (dkAt dk_X12_mean 18 rfl) (by decide) ?_
      exact G.weak (L := [some (.ref (wad Γ 109)), some (.int p0), some (.int p1), some (.int p2), some (.long (x1 * (1000 : Int64))), none, some (.long (0 : Int64)), none, some (.int (x2 + (1 : Int32)))]) ⟨rfl, rfl, rfl, rfl, rfl, rfl, rfl, trivial⟩ (ih _ _ hf)
set_option maxRecDepth 100000 in
theorem l_X12_mean_L38 {Γ : WC} {X : MX} {sh : Nat → Option SE} (hL : HLa Γ sh) {nR : Nat} {rc : Mem → Int32 → Int32 → Int32 → Option (Int64 × Mem)} (ihr : ∀ (M : Mem) (p0 : Int32) (p1 : Int32) (p2 : Int32) (rM : Int64 × Mem), rc M p0 p1 p2 = some rM → Ct Γ yX12_mean cX12_mean 9 (some .long) (rmL (nR + 1) 0 0) [.ref (wad Γ 109), .int p0, .int p1, .int p2] M (some (.long rM.1)) rM.2) (C : CX Γ X cX12_mean 9 RX12 (some .long) (rmL (nR + 2) 0 0)) {rM : Int64 × Mem} (E : EndN Γ X (some (.long rM.1)) rM.2 0 (6 * 0)) {Z : Nat} {M : Mem} {p0 : Int32} {p1 : Int32} {p2 : Int32} {y3 : Int64} {k : Int64 → Option (Int64 × Mem)} (hk : ∀ (a6 : Int64), k a6 = some rM → G Γ X M (0) (6 * (0)) [some (.ref (wad Γ 109)), some (.int p0), some (.int p1), some (.int p2), none, none, some (.long a6)] [] 102) : ∀ (n : Nat) (x4 : Int64) (x5 : Int32), f_X12_mean_L38 sh Z rc M p0 p1 p2 y3 k n x4 x5 = some rM → G Γ X M (0) (6 * (0)) [some (.ref (wad Γ 109)), some (.int p0), some (.int p1), some (.int p2), some (.long y3), none, some (.long x4), none, some (.int x5)] [] 38 := by
  intro n
  induction n with
  | zero =>
    intro x4 x5 hf
    have hf0 : (none : Option _) = some rM := hf
    cases hf0
  | succ n ih =>
    intro x4 x5 hf
    rw [f_X12_mean_L38] at hf
    refine x_iload C rfl (dkAt dk_X12_mean 21 rfl) 40 rfl ?_
    refine x_aload_n C rfl rfl (dkAt dk_X12_mean 22 rfl) 41 rfl ?_
    refine x_getS C lk_RX12_24 (hL.2.1 109 (18, 17) rfl) (hL.2.2.2 109 7 111 rfl) (dkAt dk_X12_mean 23 rfl) 44 rfl ?_
    refine x_iload_n C rfl rfl (dkAt dk_X12_mean 24 rfl) 45 rfl ?_
    refine x_iald C (hL.2.1 111 (0, 6) rfl) (dkAt dk_X12_mean 25 rfl) 46 rfl hf (fun v6 hf => ?_)
    refine x_icmp_ge C 102 (dkAt dk_X12_mean 26 rfl) 49 rfl (by decide) hf (fun hf => ?_) (fun hf => ?_)
    · exact G.weak (L := [some (.ref (wad Γ 109)), some (.int p0), some (.int p1), some (.int p2), none, none, some (.long x4)]) ⟨rfl, rfl, rfl, rfl, rfl, trivial⟩ (hk _ hf)
    · refine x_lload C rfl (dkAt dk_X12_mean 27 rfl) 51 rfl ?_
      refine x_aload_n C rfl rfl (dkAt dk_X12_mean 28 rfl) 52 rfl ?_
      refine x_getS C lk_RX12_32 (hL.2.1 109 (18, 17) rfl) (hL.2.2.2 109 9 119 rfl) (dkAt dk_X12_mean 29 rfl) 55 rfl ?_
      refine x_iload_n C rfl rfl (dkAt dk_X12_mean 30 rfl) 56 rfl ?_
      refine x_qald C (k9 := 1) (n := 6) (by decide) (by decide) (hL.2.1 119 (5, 1006) rfl) (dkAt dk_X12_mean 31 rfl) 57 rfl hf (fun o7 h_o7 hf => ?_)
      refine x_iload C rfl (dkAt dk_X12_mean 32 rfl) 59 rfl ?_
      refine x_iald C (hL.2.2.1 _ _ h_o7) (dkAt dk_X12_mean 33 rfl) 60 rfl hf (fun v8 hf => ?_)
      refine x_i2l C (dkAt dk_X12_mean 34 rfl) 61 rfl ?_
      refine x_iload_n C rfl rfl (dkAt dk_X12_mean 35 rfl) 62 rfl ?_
      refine x_join hf (fun t9 => G Γ X M (0) (6 * (0)) [some (.ref (wad Γ 109)), some (.int p0), some (.int p1), some (.int p2), some (.long y3), none, none, none, some (.int x5)] [.int t9, .long v8.toInt64, .long x4] 88) (fun t9 hf => ?_) (fun j10 hj10 hf => ?_)
      · refine x_i2l C (dkAt dk_X12_mean 52 rfl) 89 rfl ?_
        refine x_lmul C (dkAt dk_X12_mean 53 rfl) 90 rfl ?_
        refine x_lload C rfl (dkAt dk_X12_mean 54 rfl) 92 rfl ?_
        refine x_lmul C (dkAt dk_X12_mean 55 rfl) 93 rfl ?_
        refine x_ladd C (dkAt dk_X12_mean 56 rfl) 94 rfl ?_
        refine x_lstore C (L1 := [some (.ref (wad Γ 109)), some (.int p0), some (.int p1), some (.int p2), some (.long y3), none, some (.long (x4 + ((v8.toInt64 * t9.toInt64) * y3))), none, some (.int x5)]) (dkAt dk_X12_mean 57 rfl) 96 rfl (by decide) rfl ?_
        refine x_iinc C (v := (x5 + (1 : Int32))) (L1 := [some (.ref (wad Γ 109)), some (.int p0), some (.int p1), some (.int p2), some (.long y3), none, some (.long (x4 + ((v8.toInt64 * t9.toInt64) * y3))), none, some (.int (x5 + (1 : Int32)))]) (dkAt dk_X12_mean 58 rfl) 99 rfl rfl rfl (by decide) rfl ?_
        refine x_goto C 38 (dkAt dk_X12_mean 59 rfl) (by decide) ?_
        exact G.weak (L := [some (.ref (wad Γ 109)), some (.int p0), some (.int p1), some (.int p2), some (.long y3), none, some (.long (x4 + ((v8.toInt64 * t9.toInt64) * y3))), none, some (.int (x5 + (1 : Int32)))]) ⟨rfl, rfl, rfl, rfl, rfl, rfl, rfl, trivial⟩ (ih _ _ hf)
      · refine x_if_ge C 77 (dkAt dk_X12_mean 36 rfl) 65 rfl (by decide) hf (fun hf => ?_) (fun hf => ?_)
        · refine x_aload_n C rfl rfl (dkAt dk_X12_mean 44 rfl) 78 rfl ?_
          refine x_getS C lk_RX12_37 (hL.2.1 109 (18, 17) rfl) (hL.2.2.2 109 10 126 rfl) (dkAt dk_X12_mean 45 rfl) 81 rfl ?_
          refine x_iload_n C rfl rfl (dkAt dk_X12_mean 46 rfl) 82 rfl ?_
          refine x_qald C (k9 := 2) (n := 6) (by decide) (by decide) (hL.2.1 126 (5, 2006) rfl) (dkAt dk_X12_mean 47 rfl) 83 rfl hf (fun o11 h_o11 hf => ?_)
          refine x_iload C rfl (dkAt dk_X12_mean 48 rfl) 85 rfl ?_
          refine x_qald C (k9 := 1) (n := 3) (by decide) (by decide) (hL.2.2.1 _ _ h_o11) (dkAt dk_X12_mean 49 rfl) 86 rfl hf (fun o12 h_o12 hf => ?_)
          refine x_iload_n C rfl rfl (dkAt dk_X12_mean 50 rfl) 87 rfl ?_
          refine x_iald C (hL.2.2.1 _ _ h_o12) (dkAt dk_X12_mean 51 rfl) 88 rfl hf (fun v13 hf => ?_)
          exact G.weak (L := [some (.ref (wad Γ 109)), some (.int p0), some (.int p1), some (.int p2), some (.long y3), none, none, none, some (.int x5)]) ⟨rfl, rfl, rfl, rfl, rfl, rfl, trivial⟩ (hj10 _ hf)
        · refine x_aload_n C rfl rfl (dkAt dk_X12_mean 37 rfl) 66 rfl ?_
          refine x_getS C lk_RX12_29 (hL.2.1 109 (18, 17) rfl) (hL.2.2.2 109 8 112 rfl) (dkAt dk_X12_mean 38 rfl) 69 rfl ?_
          refine x_iload_n C rfl rfl (dkAt dk_X12_mean 39 rfl) 70 rfl ?_
          refine x_qald C (k9 := 1) (n := 6) (by decide) (by decide) (hL.2.1 112 (5, 1006) rfl) (dkAt dk_X12_mean 40 rfl) 71 rfl hf (fun o14 h_o14 hf => ?_)
          refine x_iload C rfl (dkAt dk_X12_mean 41 rfl) 73 rfl ?_
          refine x_iald C (hL.2.2.1 _ _ h_o14) (dkAt dk_X12_mean 42 rfl) 74 rfl hf (fun v15 hf => ?_)
          refine x_goto C 88 (dkAt dk_X12_mean 43 rfl) (by decide) ?_
          exact G.weak (L := [some (.ref (wad Γ 109)), some (.int p0), some (.int p1), some (.int p2), some (.long y3), none, none, none, some (.int x5)]) ⟨rfl, rfl, rfl, rfl, rfl, rfl, trivial⟩ (hj10 _ hf)
set_option maxRecDepth 100000 in
theorem l_X12_mean_L105 {Γ : WC} {X : MX} {sh : Nat → Option SE} (hL : HLa Γ sh) {nR : Nat} {rc : Mem → Int32 → Int32 → Int32 → Option (Int64 × Mem)} (ihr : ∀ (M : Mem) (p0 : Int32) (p1 : Int32) (p2 : Int32) (rM : Int64 × Mem), rc M p0 p1 p2 = some rM → Ct Γ yX12_mean cX12_mean 9 (some .long) (rmL (nR + 1) 0 0) [.ref (wad Γ 109), .int p0, .int p1, .int p2] M (some (.long rM.1)) rM.2) (C : CX Γ X cX12_mean 9 RX12 (some .long) (rmL (nR + 2) 0 0)) {rM : Int64 × Mem} (E : EndN Γ X (some (.long rM.1)) rM.2 0 (6 * 0)) {Z : Nat} {p0 : Int32} {p1 : Int32} {p2 : Int32} : ∀ (n : Nat) (x17 : Int64) (x18 : Int32) (M19 : Mem), f_X12_mean_L105 sh Z rc p0 p1 p2 n x17 x18 M19 = some rM → G Γ X M19 (0) (6 * (0)) [some (.ref (wad Γ 109)), some (.int p0), some (.int p1), some (.int p2), none, none, some (.long x17), none, some (.int x18)] [] 105 := by
  intro n
  induction n with
  | zero =>
    intro x17 x18 M19 hf
    have hf0 : (none : Option _) = some rM := hf
    cases hf0
  | succ n ih =>
    intro x17 x18 M19 hf
    rw [f_X12_mean_L105] at hf
    refine x_iload C rfl (dkAt dk_X12_mean 62 rfl) 107 rfl ?_
    refine x_aload_n C rfl rfl (dkAt dk_X12_mean 63 rfl) 108 rfl ?_
    refine x_getI C lk_RX12_67 (hL.2.1 109 (18, 17) rfl) (dkAt dk_X12_mean 64 rfl) 111 rfl hf (fun v20 hf => ?_)
    refine x_icmp_ge C 159 (dkAt dk_X12_mean 65 rfl) 114 rfl (by decide) hf (fun hf => ?_) (fun hf => ?_)
    · refine x_lload C rfl (dkAt dk_X12_mean 92 rfl) 161 rfl ?_
      exact x_lret C E hf (Nat.zero_le _) (Nat.zero_le _) (dkAt dk_X12_mean 93 rfl)
    · refine x_iload_n C rfl rfl (dkAt dk_X12_mean 66 rfl) 115 rfl ?_
      refine x_iconst C (v := (1 : Int32)) (by decide) (dkAt dk_X12_mean 67 rfl) 116 rfl ?_
      refine x_icmp_le C 159 (dkAt dk_X12_mean 68 rfl) 119 rfl (by decide) hf (fun hf => ?_) (fun hf => ?_)
      · refine x_lload C rfl (dkAt dk_X12_mean 92 rfl) 161 rfl ?_
        exact x_lret C E hf (Nat.zero_le _) (Nat.zero_le _) (dkAt dk_X12_mean 93 rfl)
      · refine x_aload_n C rfl rfl (dkAt dk_X12_mean 69 rfl) 120 rfl ?_
        refine x_iload_n C rfl rfl (dkAt dk_X12_mean 70 rfl) 121 rfl ?_
        refine x_iload C rfl (dkAt dk_X12_mean 71 rfl) 123 rfl ?_
        obtain ⟨v21, M22, h23, hf⟩ := cl_inv hf
        refine x_cVi C (c_X12_step hL h23) mw_X12_step ln_RX12_126 mi_X12_step (show RC _ 109 RX12 from ⟨12, 17, _, (hL.2.1 109 (18, 17) rfl), rc12, rfl⟩) (ro_of (by omega) (by decide) (by decide) (by decide)) rfl rfl (Nat.le_of_ble_eq_true rfl) (dkAt dk_X12_mean 72 rfl) 126 rfl _ _ rfl rfl ?_
        change G Γ X M22 (0) (6 * (0)) [some (.ref (wad Γ 109)), some (.int p0), some (.int p1), some (.int p2), none, none, some (.long x17), none, some (.int x18)] [.int v21] 126
        refine x_join hf (fun t24 => G Γ X t24.2 (0) (6 * (0)) [some (.ref (wad Γ 109)), some (.int p0), some (.int p1), some (.int p2), none, none, some (.long t24.1), none, some (.int x18)] [] 153) (fun t24 hf => ?_) (fun j25 hj25 hf => ?_)
        · refine x_iinc C (v := (x18 + (1 : Int32))) (L1 := [some (.ref (wad Γ 109)), some (.int p0), some (.int p1), some (.int p2), none, none, some (.long t24.1), none, some (.int (x18 + (1 : Int32)))]) (dkAt dk_X12_mean 90 rfl) 156 rfl rfl rfl (by decide) rfl ?_
          refine x_goto C 105 (dkAt dk_X12_mean 91 rfl) (by decide) ?_
          exact G.weak (L := [some (.ref (wad Γ 109)), some (.int p0), some (.int p1), some (.int p2), none, none, some (.long t24.1), none, some (.int (x18 + (1 : Int32)))]) ⟨rfl, rfl, rfl, rfl, rfl, rfl, trivial⟩ (ih _ _ _ hf)
        · refine x_if_le C 153 (dkAt dk_X12_mean 73 rfl) 129 rfl (by decide) hf (fun hf => ?_) (fun hf => ?_)
          · exact G.weak (L := [some (.ref (wad Γ 109)), some (.int p0), some (.int p1), some (.int p2), none, none, some (.long x17), none, some (.int x18)]) ⟨rfl, rfl, rfl, rfl, rfl, rfl, trivial⟩ (hj25 _ hf)
          · refine x_lload C rfl (dkAt dk_X12_mean 74 rfl) 131 rfl ?_
            refine x_aload_n C rfl rfl (dkAt dk_X12_mean 75 rfl) 132 rfl ?_
            refine x_iload_n C rfl rfl (dkAt dk_X12_mean 76 rfl) 133 rfl ?_
            refine x_iload C rfl (dkAt dk_X12_mean 77 rfl) 135 rfl ?_
            obtain ⟨v26, M27, h28, hf⟩ := cl_inv hf
            refine x_cVi C (c_X12_step hL h28) mw_X12_step ln_RX12_126 mi_X12_step (show RC _ 109 RX12 from ⟨12, 17, _, (hL.2.1 109 (18, 17) rfl), rc12, rfl⟩) (ro_of (by omega) (by decide) (by decide) (by decide)) rfl rfl (Nat.le_of_ble_eq_true rfl) (dkAt dk_X12_mean 78 rfl) 138 rfl _ _ rfl rfl ?_
            change G Γ X M27 (0) (6 * (0)) [some (.ref (wad Γ 109)), some (.int p0), some (.int p1), some (.int p2), none, none, some (.long x17), none, some (.int x18)] [.int v26, .long x17] 138
            refine x_i2l C (dkAt dk_X12_mean 79 rfl) 139 rfl ?_
            refine x_aload_n C rfl rfl (dkAt dk_X12_mean 80 rfl) 140 rfl ?_
            refine x_iload C rfl (dkAt dk_X12_mean 81 rfl) 142 rfl ?_
            refine x_iload_n C rfl rfl (dkAt dk_X12_mean 82 rfl) 143 rfl ?_
            refine x_iconst C (v := (1 : Int32)) (by decide) (dkAt dk_X12_mean 83 rfl) 144 rfl ?_
            refine x_isub C (dkAt dk_X12_mean 84 rfl) 145 rfl ?_
            refine x_iload_n C rfl rfl (dkAt dk_X12_mean 85 rfl) 146 rfl ?_
            obtain ⟨v29, M30, h31, hf⟩ := cl_inv hf
            refine x_cVl C (ihr _ _ _ _ _ h31) mw_X12_mean ln_RX12_131 mi_X12_mean (show RC _ 109 RX12 from ⟨12, 17, _, (hL.2.1 109 (18, 17) rfl), rc12, rfl⟩) (ro_of (by omega) (by decide) (by decide) (by decide)) rfl rfl (Nat.le_of_ble_eq_true rfl) (dkAt dk_X12_mean 86 rfl) 149 rfl _ _ rfl rfl ?_
            change G Γ X M30 (0) (6 * (0)) [some (.ref (wad Γ 109)), some (.int p0), some (.int p1), some (.int p2), none, none, some (.long x17), none, some (.int x18)] [.long v29, .long v26.toInt64, .long x17] 149
            refine x_lmul C (dkAt dk_X12_mean 87 rfl) 150 rfl ?_
            refine x_ladd C (dkAt dk_X12_mean 88 rfl) 151 rfl ?_
            refine x_lstore C (L1 := [some (.ref (wad Γ 109)), some (.int p0), some (.int p1), some (.int p2), none, none, some (.long (x17 + (v26.toInt64 * v29))), none, some (.int x18)]) (dkAt dk_X12_mean 89 rfl) 153 rfl (by decide) rfl ?_
            exact G.weak (L := [some (.ref (wad Γ 109)), some (.int p0), some (.int p1), some (.int p2), none, none, some (.long (x17 + (v26.toInt64 * v29))), none, some (.int x18)]) ⟨rfl, rfl, rfl, rfl, rfl, rfl, trivial⟩ (hj25 _ hf)
set_option maxRecDepth 100000 in
theorem c_X12_mean_B {Γ : WC} {sh : Nat → Option SE} (hL : HLa Γ sh) {nR : Nat} {rc : Mem → Int32 → Int32 → Int32 → Option (Int64 × Mem)} (ihr : ∀ (M : Mem) (p0 : Int32) (p1 : Int32) (p2 : Int32) (rM : Int64 × Mem), rc M p0 p1 p2 = some rM → Ct Γ yX12_mean cX12_mean 9 (some .long) (rmL (nR + 1) 0 0) [.ref (wad Γ 109), .int p0, .int p1, .int p2] M (some (.long rM.1)) rM.2) {Z : Nat} {M : Mem} {p0 : Int32} {p1 : Int32} {p2 : Int32} {rM : Int64 × Mem} (hf : f_X12_mean_B sh Z rc M p0 p1 p2 = some rM) : Ct Γ yX12_mean cX12_mean 9 (some .long) (rmL (nR + 2) 0 0) [.ref (wad Γ 109), .int p0, .int p1, .int p2] M (some (.long rM.1)) rM.2 := by
  refine mkN hL.1.1 (own := RX12) rfl (by decide) (Nat.le_of_ble_eq_true rfl) (fun X C E => ?_)
  change G Γ X M (0) (6 * (0)) [some (.ref (wad Γ 109)), some (.int p0), some (.int p1), some (.int p2)] [] 0
  unfold f_X12_mean_B at hf
  refine x_iload_n C rfl rfl (dkAt dk_X12_mean 0 rfl) 1 rfl ?_
  refine x_if_ne C 6 (dkAt dk_X12_mean 1 rfl) 4 rfl (by decide) hf (fun hf => ?_) (fun hf => ?_)
  · refine x_lconst C (v := (1 : Int64)) (by decide) (dkAt dk_X12_mean 4 rfl) 7 rfl ?_
    refine x_lstore C (L1 := [some (.ref (wad Γ 109)), some (.int p0), some (.int p1), some (.int p2), some (.long (1 : Int64))]) (dkAt dk_X12_mean 5 rfl) 9 rfl (by decide) rfl ?_
    refine x_lconst C (v := (0 : Int64)) (by decide) (dkAt dk_X12_mean 6 rfl) 10 rfl ?_
    refine x_lstore C (L1 := [some (.ref (wad Γ 109)), some (.int p0), some (.int p1), some (.int p2), some (.long (1 : Int64)), none, some (.long (0 : Int64))]) (dkAt dk_X12_mean 7 rfl) 12 rfl (by decide) rfl ?_
    refine x_iconst C (v := (1 : Int32)) (by decide) (dkAt dk_X12_mean 8 rfl) 13 rfl ?_
    refine x_istore C (L1 := [some (.ref (wad Γ 109)), some (.int p0), some (.int p1), some (.int p2), some (.long (1 : Int64)), none, some (.long (0 : Int64)), none, some (.int (1 : Int32))]) (dkAt dk_X12_mean 9 rfl) 15 rfl (by decide) rfl ?_
    refine G.weak (L := [some (.ref (wad Γ 109)), some (.int p0), some (.int p1), some (.int p2), some (.long (1 : Int64)), none, some (.long (0 : Int64)), none, some (.int (1 : Int32))]) ⟨rfl, rfl, rfl, rfl, rfl, rfl, rfl, trivial⟩ ?_
    refine l_X12_mean_L15 hL ihr C E ?_ Z _ _ hf
    intro y3 hf
    refine x_iconst C (v := (0 : Int32)) (by decide) (dkAt dk_X12_mean 19 rfl) 36 rfl ?_
    refine x_istore C (L1 := [some (.ref (wad Γ 109)), some (.int p0), some (.int p1), some (.int p2), some (.long y3), none, some (.long (0 : Int64)), none, some (.int (0 : Int32))]) (dkAt dk_X12_mean 20 rfl) 38 rfl (by decide) rfl ?_
    refine G.weak (L := [some (.ref (wad Γ 109)), some (.int p0), some (.int p1), some (.int p2), some (.long y3), none, some (.long (0 : Int64)), none, some (.int (0 : Int32))]) ⟨rfl, rfl, rfl, rfl, rfl, rfl, rfl, trivial⟩ ?_
    refine l_X12_mean_L38 hL ihr C E ?_ Z _ _ hf
    intro y16 hf
    refine x_iconst C (v := (0 : Int32)) (by decide) (dkAt dk_X12_mean 60 rfl) 103 rfl ?_
    refine x_istore C (L1 := [some (.ref (wad Γ 109)), some (.int p0), some (.int p1), some (.int p2), none, none, some (.long y16), none, some (.int (0 : Int32))]) (dkAt dk_X12_mean 61 rfl) 105 rfl (by decide) rfl ?_
    refine G.weak (L := [some (.ref (wad Γ 109)), some (.int p0), some (.int p1), some (.int p2), none, none, some (.long y16), none, some (.int (0 : Int32))]) ⟨rfl, rfl, rfl, rfl, rfl, rfl, trivial⟩ ?_
    refine l_X12_mean_L105 hL ihr C E Z _ _ _ hf
  · refine x_lconst C (v := (0 : Int64)) (by decide) (dkAt dk_X12_mean 2 rfl) 5 rfl ?_
    exact x_lret C E hf (Nat.zero_le _) (Nat.zero_le _) (dkAt dk_X12_mean 3 rfl)
def f_X12_mean_R (sh : Nat → Option SE) (Z : Nat) : Nat → Mem → Int32 → Int32 → Int32 → Option (Int64 × Mem)
  | 0, _, _, _, _ => none
  | n + 1, M, p0, p1, p2 => f_X12_mean_B sh Z (f_X12_mean_R sh Z n) M p0 p1 p2
theorem c_X12_mean_R {Γ : WC} {sh : Nat → Option SE} (hL : HLa Γ sh) {Z : Nat} : ∀ (n : Nat) (M : Mem) (p0 : Int32) (p1 : Int32) (p2 : Int32) (rM : Int64 × Mem), f_X12_mean_R sh Z n M p0 p1 p2 = some rM → Ct Γ yX12_mean cX12_mean 9 (some .long) (rmL (n + 1) 0 0) [.ref (wad Γ 109), .int p0, .int p1, .int p2] M (some (.long rM.1)) rM.2 := by
  intro n
  induction n with
  | zero =>
    intro M p0 p1 p2 rM hf
    have hf0 : (none : Option _) = some rM := hf
    cases hf0
  | succ n ih =>
    intro M p0 p1 p2 rM hf
    exact c_X12_mean_B hL ih hf
def f_X12_mean (sh : Nat → Option SE) (Z : Nat) (M : Mem) (p0 : Int32) (p1 : Int32) (p2 : Int32) : Option (Int64 × Mem) := f_X12_mean_R sh Z 8 M p0 p1 p2
theorem c_X12_mean {Γ : WC} {sh : Nat → Option SE} (hL : HLa Γ sh) {Z : Nat} {M : Mem} {p0 : Int32} {p1 : Int32} {p2 : Int32} {rM : Int64 × Mem} (hf : f_X12_mean sh Z M p0 p1 p2 = some rM) : Ct Γ yX12_mean cX12_mean 9 (some .long) (rmL 9 0 0) [.ref (wad Γ 109), .int p0, .int p1, .int p2] M (some (.long rM.1)) rM.2 := c_X12_mean_R hL 8 M p0 p1 p2 rM hf
def f_X12_unit_L6 (sh : Nat → Option SE) (Z : Nat) (M : Mem) : Nat → Int64 → Int32 → Option (Int64 × Mem)
  | 0, _, _ => none
  | n + 1, x1, x2 => bd (gI M (109) 3) (fun v3 => (if v3 ≤ x2 then some (x1, M) else f_X12_unit_L6 sh Z M n (x1 * (1000 : Int64)) (x2 + (1 : Int32))))
def f_X12_unit (sh : Nat → Option SE) (Z : Nat) (M : Mem)  : Option (Int64 × Mem) :=
  f_X12_unit_L6 sh Z M Z (10 : Int64) (1 : Int32)
set_option maxRecDepth 100000 in
theorem l_X12_unit_L6 {Γ : WC} {X : MX} {sh : Nat → Option SE} (hL : HLa Γ sh) (C : CX Γ X cX12_unit 4 RX12 (some .long) (rmL 1 0 (6 * 0))) {rM : Int64 × Mem} (E : EndN Γ X (some (.long rM.1)) rM.2 0 (6 * 0)) {Z : Nat} {M : Mem} : ∀ (n : Nat) (x1 : Int64) (x2 : Int32), f_X12_unit_L6 sh Z M n x1 x2 = some rM → G Γ X M (0) (6 * (0)) [some (.ref (wad Γ 109)), some (.long x1), none, some (.int x2)] [] 6 := by
  intro n
  induction n with
  | zero =>
    intro x1 x2 hf
    have hf0 : (none : Option _) = some rM := hf
    cases hf0
  | succ n ih =>
    intro x1 x2 hf
    rw [f_X12_unit_L6] at hf
    refine x_iload_n C rfl rfl (dkAt dk_X12_unit 4 rfl) 7 rfl ?_
    refine x_aload_n C rfl rfl (dkAt dk_X12_unit 5 rfl) 8 rfl ?_
    refine x_getI C lk_RX12_70 (hL.2.1 109 (18, 17) rfl) (dkAt dk_X12_unit 6 rfl) 11 rfl hf (fun v3 hf => ?_)
    refine x_icmp_ge C 26 (dkAt dk_X12_unit 7 rfl) 14 rfl (by decide) hf (fun hf => ?_) (fun hf => ?_)
    · refine x_lload_n C rfl rfl (dkAt dk_X12_unit 14 rfl) 27 rfl ?_
      exact x_lret C E hf (by decide) (by decide) (dkAt dk_X12_unit 15 rfl)
    · refine x_lload_n C rfl rfl (dkAt dk_X12_unit 8 rfl) 15 rfl ?_
      refine x_ldc2 C (v := (1000 : Int64)) cl_RX12_129 (dkAt dk_X12_unit 9 rfl) 18 rfl ?_
      refine x_lmul C (dkAt dk_X12_unit 10 rfl) 19 rfl ?_
      refine x_lstore_n C (L1 := [some (.ref (wad Γ 109)), some (.long (x1 * (1000 : Int64))), none, some (.int x2)]) (dkAt dk_X12_unit 11 rfl) 20 rfl rfl (by decide) rfl ?_
      refine x_iinc C (v := (x2 + (1 : Int32))) (L1 := [some (.ref (wad Γ 109)), some (.long (x1 * (1000 : Int64))), none, some (.int (x2 + (1 : Int32)))]) (dkAt dk_X12_unit 12 rfl) 23 rfl rfl rfl (by decide) rfl ?_
      refine x_goto C 6 (dkAt dk_X12_unit 13 rfl) (by decide) ?_
      exact G.weak (L := [some (.ref (wad Γ 109)), some (.long (x1 * (1000 : Int64))), none, some (.int (x2 + (1 : Int32)))]) ⟨rfl, rfl, rfl, trivial⟩ (ih _ _ hf)
set_option maxRecDepth 100000 in
theorem c_X12_unit {Γ : WC} {sh : Nat → Option SE} (hL : HLa Γ sh) {Z : Nat} {M : Mem}  {rM : Int64 × Mem} (hf : f_X12_unit sh Z M  = some rM) : Ct Γ yX12_unit cX12_unit 4 (some .long) (rmL 1 0 (6 * 0)) [.ref (wad Γ 109)] M (some (.long rM.1)) rM.2 := by
  refine mkN hL.1.1 (own := RX12) rfl (by decide) (Nat.le_of_ble_eq_true rfl) (fun X C E => ?_)
  change G Γ X M (0) (6 * (0)) [some (.ref (wad Γ 109))] [] 0
  unfold f_X12_unit at hf
  refine x_ldc2 C (v := (10 : Int64)) cl_RX12_135 (dkAt dk_X12_unit 0 rfl) 3 rfl ?_
  refine x_lstore_n C (L1 := [some (.ref (wad Γ 109)), some (.long (10 : Int64))]) (dkAt dk_X12_unit 1 rfl) 4 rfl rfl (by decide) rfl ?_
  refine x_iconst C (v := (1 : Int32)) (by decide) (dkAt dk_X12_unit 2 rfl) 5 rfl ?_
  refine x_istore_n C (L1 := [some (.ref (wad Γ 109)), some (.long (10 : Int64)), none, some (.int (1 : Int32))]) (dkAt dk_X12_unit 3 rfl) 6 rfl rfl (by decide) rfl ?_
  refine G.weak (L := [some (.ref (wad Γ 109)), some (.long (10 : Int64)), none, some (.int (1 : Int32))]) ⟨rfl, rfl, rfl, trivial⟩ ?_
  refine l_X12_unit_L6 hL C E Z _ _ hf
def f_X12_draw (sh : Nat → Option SE) (Z : Nat) (M : Mem) (p0 : Int32) : Option (Int32 × Mem) :=
  bd (gI M (109) 4) (fun v1 => nzI (30011 : Int32) (bd (sI M (109) 4 ((((109 : Int32) * v1) + (1021 : Int32)) - (((109 : Int32) * v1) + (1021 : Int32)) / (30011 : Int32) * (30011 : Int32))) (fun M2 => bd (gI M2 (109) 4) (fun v3 => nzI p0 (some ((v3 - v3 / p0 * p0), M2))))))
set_option maxRecDepth 100000 in
theorem c_X12_draw {Γ : WC} {sh : Nat → Option SE} (hL : HLa Γ sh) {Z : Nat} {M : Mem} {p0 : Int32} {rM : Int32 × Mem} (hf : f_X12_draw sh Z M p0 = some rM) : Ct Γ yX12_draw cX12_draw 2 (some .int) (rmL 1 0 (6 * 0)) [.ref (wad Γ 109), .int p0] M (some (.int rM.1)) rM.2 := by
  refine mkN hL.1.1 (own := RX12) rfl (by decide) (Nat.le_of_ble_eq_true rfl) (fun X C E => ?_)
  change G Γ X M (0) (6 * (0)) [some (.ref (wad Γ 109)), some (.int p0)] [] 0
  unfold f_X12_draw at hf
  refine x_aload_n C rfl rfl (dkAt dk_X12_draw 0 rfl) 1 rfl ?_
  refine x_bipush C (v := (109 : Int32)) (by decide) (dkAt dk_X12_draw 1 rfl) 3 rfl ?_
  refine x_aload_n C rfl rfl (dkAt dk_X12_draw 2 rfl) 4 rfl ?_
  refine x_getI C lk_RX12_73 (hL.2.1 109 (18, 17) rfl) (dkAt dk_X12_draw 3 rfl) 7 rfl hf (fun v1 hf => ?_)
  refine x_imul C (dkAt dk_X12_draw 4 rfl) 8 rfl ?_
  refine x_sipush C (v := (1021 : Int32)) (by decide) (dkAt dk_X12_draw 5 rfl) 11 rfl ?_
  refine x_iadd C (dkAt dk_X12_draw 6 rfl) 12 rfl ?_
  refine x_sipush C (v := (30011 : Int32)) (by decide) (dkAt dk_X12_draw 7 rfl) 15 rfl ?_
  refine x_irem C (dkAt dk_X12_draw 8 rfl) 16 rfl hf (fun hf => ?_)
  refine x_putI C pk_RX12_73 ⟨_, rfl⟩ (hL.2.1 109 (18, 17) rfl) (dkAt dk_X12_draw 9 rfl) 19 rfl hf (fun M2 hf => ?_)
  refine x_aload_n C rfl rfl (dkAt dk_X12_draw 10 rfl) 20 rfl ?_
  refine x_getI C lk_RX12_73 (hL.2.1 109 (18, 17) rfl) (dkAt dk_X12_draw 11 rfl) 23 rfl hf (fun v3 hf => ?_)
  refine x_iload_n C rfl rfl (dkAt dk_X12_draw 12 rfl) 24 rfl ?_
  refine x_irem C (dkAt dk_X12_draw 13 rfl) 25 rfl hf (fun hf => ?_)
  exact x_iret C E hf (by decide) (by decide) (dkAt dk_X12_draw 14 rfl)
def f_X12_go_L56 (sh : Nat → Option SE) (Z : Nat) (x5 : Int32) (x6 : Int32) (x7 : Int32) (v10 : Int32) (M11 : Mem) (k : Int32 → Option (Int32 × Mem)) : Nat → Int32 → Int32 → Option (Int32 × Mem)
  | 0, _, _ => none
  | n + 1, x15, x16 => (if v10 < x16 then k x15 else rdQ M11 119 6 x5 sh (0, 3) (fun o17 => rdI M11 o17 3 (x15 + (1 : Int32)) (fun v18 => f_X12_go_L56 sh Z x5 x6 x7 v10 M11 k n (x15 + (1 : Int32)) (x16 + v18))))
def f_X12_go_L114 (sh : Nat → Option SE) (Z : Nat) (x5 : Int32) (x6 : Int32) (x7 : Int32) (y19 : Int32) (v20 : Int32) (M21 : Mem) (k : Int32 → Option (Int32 × Mem)) : Nat → Int32 → Int32 → Option (Int32 × Mem)
  | 0, _, _ => none
  | n + 1, x29, x30 => (if v20 < x30 then k x29 else rdQ M21 151 6 x5 sh (5, 1003) (fun o31 => rdQ M21 o31 3 y19 sh (0, 6) (fun o32 => rdQ M21 176 6 x5 sh (5, 1003) (fun o33 => rdQ M21 o33 3 y19 sh (0, 7) (fun o34 => rdI M21 o34 7 (x29 + (1 : Int32)) (fun v35 => rdI M21 o32 6 v35 (fun v36 => f_X12_go_L114 sh Z x5 x6 x7 y19 v20 M21 k n (x29 + (1 : Int32)) (x30 + v36))))))))
def f_X12_go_L24 (sh : Nat → Option SE) (Z : Nat) : Nat → Int32 → Int32 → Int32 → Mem → Option (Int32 × Mem)
  | 0, _, _, _, _ => none
  | n + 1, x5, x6, x7, M8 => bd (gI M8 (109) 3) (fun v9 => (if v9 ≤ x7 then some (x6, M8) else cl (f_X12_draw sh Z M8 (10 : Int32)) (fun v10 M11 => rdQ M11 119 6 x5 sh (0, 3) (fun o13 => rdI M11 o13 3 (0 : Int32) (fun v14 => f_X12_go_L56 sh Z x5 x6 x7 v10 M11 (fun (y19 : Int32) => cl (f_X12_draw sh Z M11 (100 : Int32)) (fun v20 M21 => rdQ M21 151 6 x5 sh (5, 1003) (fun o23 => rdQ M21 o23 3 y19 sh (0, 6) (fun o24 => rdQ M21 176 6 x5 sh (5, 1003) (fun o25 => rdQ M21 o25 3 y19 sh (0, 7) (fun o26 => rdI M21 o26 7 (0 : Int32) (fun v27 => rdI M21 o24 6 v27 (fun v28 => f_X12_go_L114 sh Z x5 x6 x7 y19 v20 M21 (fun (y37 : Int32) => rdQ M21 112 6 x5 sh (0, 3) (fun o38 => rdI M21 o38 3 y19 (fun v39 => wrI M21 209 5 x7 y19 (fun M40 => rdQ M40 176 6 x5 sh (5, 1003) (fun o41 => rdQ M40 o41 3 y19 sh (0, 7) (fun o42 => rdI M40 o42 7 y37 (fun v43 => wrI M40 208 6 (x7 + (1 : Int32)) v43 (fun M44 => f_X12_go_L24 sh Z n v43 (x6 + v39) (x7 + (1 : Int32)) M44)))))))) Z (0 : Int32) v28)))))))) Z (0 : Int32) v14)))))
def f_X12_go (sh : Nat → Option SE) (Z : Nat) (M : Mem)  : Option (Int32 × Mem) :=
  bd (gI M (109) 5) (fun v1 => wrI M 208 6 (0 : Int32) v1 (fun M2 => bd (gI M2 (109) 3) (fun v3 => bd (sI M2 (109) 14 v3) (fun M4 => f_X12_go_L24 sh Z Z v1 (0 : Int32) (0 : Int32) M4))))
set_option maxRecDepth 100000 in
theorem l_X12_go_L56 {Γ : WC} {X : MX} {sh : Nat → Option SE} (hL : HLa Γ sh) (C : CX Γ X cX12_go 9 RX12 (some .int) (rmL 3 0 (6 * 0))) {rM : Int32 × Mem} (E : EndN Γ X (some (.int rM.1)) rM.2 0 (6 * 0)) {Z : Nat} {x5 : Int32} {x6 : Int32} {x7 : Int32} {v10 : Int32} {M11 : Mem} {k : Int32 → Option (Int32 × Mem)} (hk : ∀ (a5 : Int32), k a5 = some rM → G Γ X M11 (0) (6 * (0)) [some (.ref (wad Γ 109)), some (.int x5), some (.int x6), some (.int x7), none, some (.int a5), none, some (.int (0 : Int32))] [] 83) : ∀ (n : Nat) (x15 : Int32) (x16 : Int32), f_X12_go_L56 sh Z x5 x6 x7 v10 M11 k n x15 x16 = some rM → G Γ X M11 (0) (6 * (0)) [some (.ref (wad Γ 109)), some (.int x5), some (.int x6), some (.int x7), some (.int v10), some (.int x15), none, some (.int (0 : Int32)), some (.int x16)] [] 56 := by
  intro n
  induction n with
  | zero =>
    intro x15 x16 hf
    have hf0 : (none : Option _) = some rM := hf
    cases hf0
  | succ n ih =>
    intro x15 x16 hf
    rw [f_X12_go_L56] at hf
    refine x_iload C rfl (dkAt dk_X12_go 35 rfl) 58 rfl ?_
    refine x_iload C rfl (dkAt dk_X12_go 36 rfl) 60 rfl ?_
    refine x_icmp_gt C 83 (dkAt dk_X12_go 37 rfl) 63 rfl (by decide) hf (fun hf => ?_) (fun hf => ?_)
    · exact G.weak (L := [some (.ref (wad Γ 109)), some (.int x5), some (.int x6), some (.int x7), none, some (.int x15), none, some (.int (0 : Int32))]) ⟨rfl, rfl, rfl, rfl, rfl, rfl, trivial⟩ (hk _ hf)
    · refine x_iinc C (v := (x15 + (1 : Int32))) (L1 := [some (.ref (wad Γ 109)), some (.int x5), some (.int x6), some (.int x7), some (.int v10), some (.int (x15 + (1 : Int32))), none, some (.int (0 : Int32)), some (.int x16)]) (dkAt dk_X12_go 38 rfl) 66 rfl rfl rfl (by decide) rfl ?_
      refine x_iload C rfl (dkAt dk_X12_go 39 rfl) 68 rfl ?_
      refine x_aload_n C rfl rfl (dkAt dk_X12_go 40 rfl) 69 rfl ?_
      refine x_getS C lk_RX12_32 (hL.2.1 109 (18, 17) rfl) (hL.2.2.2 109 9 119 rfl) (dkAt dk_X12_go 41 rfl) 72 rfl ?_
      refine x_iload_n C rfl rfl (dkAt dk_X12_go 42 rfl) 73 rfl ?_
      refine x_qald C (k9 := 1) (n := 6) (by decide) (by decide) (hL.2.1 119 (5, 1006) rfl) (dkAt dk_X12_go 43 rfl) 74 rfl hf (fun o17 h_o17 hf => ?_)
      refine x_iload C rfl (dkAt dk_X12_go 44 rfl) 76 rfl ?_
      refine x_iald C (hL.2.2.1 _ _ h_o17) (dkAt dk_X12_go 45 rfl) 77 rfl hf (fun v18 hf => ?_)
      refine x_iadd C (dkAt dk_X12_go 46 rfl) 78 rfl ?_
      refine x_istore C (L1 := [some (.ref (wad Γ 109)), some (.int x5), some (.int x6), some (.int x7), some (.int v10), some (.int (x15 + (1 : Int32))), none, some (.int (0 : Int32)), some (.int (x16 + v18))]) (dkAt dk_X12_go 47 rfl) 80 rfl (by decide) rfl ?_
      refine x_goto C 56 (dkAt dk_X12_go 48 rfl) (by decide) ?_
      exact G.weak (L := [some (.ref (wad Γ 109)), some (.int x5), some (.int x6), some (.int x7), some (.int v10), some (.int (x15 + (1 : Int32))), none, some (.int (0 : Int32)), some (.int (x16 + v18))]) ⟨rfl, rfl, rfl, rfl, rfl, rfl, rfl, rfl, trivial⟩ (ih _ _ hf)
set_option maxRecDepth 100000 in
theorem l_X12_go_L114 {Γ : WC} {X : MX} {sh : Nat → Option SE} (hL : HLa Γ sh) (C : CX Γ X cX12_go 9 RX12 (some .int) (rmL 3 0 (6 * 0))) {rM : Int32 × Mem} (E : EndN Γ X (some (.int rM.1)) rM.2 0 (6 * 0)) {Z : Nat} {x5 : Int32} {x6 : Int32} {x7 : Int32} {y19 : Int32} {v20 : Int32} {M21 : Mem} {k : Int32 → Option (Int32 × Mem)} (hk : ∀ (a7 : Int32), k a7 = some rM → G Γ X M21 (0) (6 * (0)) [some (.ref (wad Γ 109)), some (.int x5), some (.int x6), some (.int x7), none, some (.int y19), none, some (.int a7)] [] 154) : ∀ (n : Nat) (x29 : Int32) (x30 : Int32), f_X12_go_L114 sh Z x5 x6 x7 y19 v20 M21 k n x29 x30 = some rM → G Γ X M21 (0) (6 * (0)) [some (.ref (wad Γ 109)), some (.int x5), some (.int x6), some (.int x7), none, some (.int y19), some (.int v20), some (.int x29), some (.int x30)] [] 114 := by
  intro n
  induction n with
  | zero =>
    intro x29 x30 hf
    have hf0 : (none : Option _) = some rM := hf
    cases hf0
  | succ n ih =>
    intro x29 x30 hf
    rw [f_X12_go_L114] at hf
    refine x_iload C rfl (dkAt dk_X12_go 69 rfl) 116 rfl ?_
    refine x_iload C rfl (dkAt dk_X12_go 70 rfl) 118 rfl ?_
    refine x_icmp_gt C 154 (dkAt dk_X12_go 71 rfl) 121 rfl (by decide) hf (fun hf => ?_) (fun hf => ?_)
    · exact G.weak (L := [some (.ref (wad Γ 109)), some (.int x5), some (.int x6), some (.int x7), none, some (.int y19), none, some (.int x29)]) ⟨rfl, rfl, rfl, rfl, rfl, rfl, trivial⟩ (hk _ hf)
    · refine x_iinc C (v := (x29 + (1 : Int32))) (L1 := [some (.ref (wad Γ 109)), some (.int x5), some (.int x6), some (.int x7), none, some (.int y19), some (.int v20), some (.int (x29 + (1 : Int32))), some (.int x30)]) (dkAt dk_X12_go 72 rfl) 124 rfl rfl rfl (by decide) rfl ?_
      refine x_iload C rfl (dkAt dk_X12_go 73 rfl) 126 rfl ?_
      refine x_aload_n C rfl rfl (dkAt dk_X12_go 74 rfl) 127 rfl ?_
      refine x_getS C lk_RX12_40 (hL.2.1 109 (18, 17) rfl) (hL.2.2.2 109 11 151 rfl) (dkAt dk_X12_go 75 rfl) 130 rfl ?_
      refine x_iload_n C rfl rfl (dkAt dk_X12_go 76 rfl) 131 rfl ?_
      refine x_qald C (k9 := 2) (n := 6) (by decide) (by decide) (hL.2.1 151 (5, 2006) rfl) (dkAt dk_X12_go 77 rfl) 132 rfl hf (fun o31 h_o31 hf => ?_)
      refine x_iload C rfl (dkAt dk_X12_go 78 rfl) 134 rfl ?_
      refine x_qald C (k9 := 1) (n := 3) (by decide) (by decide) (hL.2.2.1 _ _ h_o31) (dkAt dk_X12_go 79 rfl) 135 rfl hf (fun o32 h_o32 hf => ?_)
      refine x_aload_n C rfl rfl (dkAt dk_X12_go 80 rfl) 136 rfl ?_
      refine x_getS C lk_RX12_43 (hL.2.1 109 (18, 17) rfl) (hL.2.2.2 109 12 176 rfl) (dkAt dk_X12_go 81 rfl) 139 rfl ?_
      refine x_iload_n C rfl rfl (dkAt dk_X12_go 82 rfl) 140 rfl ?_
      refine x_qald C (k9 := 2) (n := 6) (by decide) (by decide) (hL.2.1 176 (5, 2006) rfl) (dkAt dk_X12_go 83 rfl) 141 rfl hf (fun o33 h_o33 hf => ?_)
      refine x_iload C rfl (dkAt dk_X12_go 84 rfl) 143 rfl ?_
      refine x_qald C (k9 := 1) (n := 3) (by decide) (by decide) (hL.2.2.1 _ _ h_o33) (dkAt dk_X12_go 85 rfl) 144 rfl hf (fun o34 h_o34 hf => ?_)
      refine x_iload C rfl (dkAt dk_X12_go 86 rfl) 146 rfl ?_
      refine x_iald C (hL.2.2.1 _ _ h_o34) (dkAt dk_X12_go 87 rfl) 147 rfl hf (fun v35 hf => ?_)
      refine x_iald C (hL.2.2.1 _ _ h_o32) (dkAt dk_X12_go 88 rfl) 148 rfl hf (fun v36 hf => ?_)
      refine x_iadd C (dkAt dk_X12_go 89 rfl) 149 rfl ?_
      refine x_istore C (L1 := [some (.ref (wad Γ 109)), some (.int x5), some (.int x6), some (.int x7), none, some (.int y19), some (.int v20), some (.int (x29 + (1 : Int32))), some (.int (x30 + v36))]) (dkAt dk_X12_go 90 rfl) 151 rfl (by decide) rfl ?_
      refine x_goto C 114 (dkAt dk_X12_go 91 rfl) (by decide) ?_
      exact G.weak (L := [some (.ref (wad Γ 109)), some (.int x5), some (.int x6), some (.int x7), none, some (.int y19), some (.int v20), some (.int (x29 + (1 : Int32))), some (.int (x30 + v36))]) ⟨rfl, rfl, rfl, rfl, rfl, rfl, rfl, rfl, trivial⟩ (ih _ _ hf)
set_option maxRecDepth 100000 in
theorem l_X12_go_L24 {Γ : WC} {X : MX} {sh : Nat → Option SE} (hL : HLa Γ sh) (C : CX Γ X cX12_go 9 RX12 (some .int) (rmL 3 0 (6 * 0))) {rM : Int32 × Mem} (E : EndN Γ X (some (.int rM.1)) rM.2 0 (6 * 0)) {Z : Nat} : ∀ (n : Nat) (x5 : Int32) (x6 : Int32) (x7 : Int32) (M8 : Mem), f_X12_go_L24 sh Z n x5 x6 x7 M8 = some rM → G Γ X M8 (0) (6 * (0)) [some (.ref (wad Γ 109)), some (.int x5), some (.int x6), some (.int x7)] [] 24 := by
  intro n
  induction n with
  | zero =>
    intro x5 x6 x7 M8 hf
    have hf0 : (none : Option _) = some rM := hf
    cases hf0
  | succ n ih =>
    intro x5 x6 x7 M8 hf
    rw [f_X12_go_L24] at hf
    refine x_iload_n C rfl rfl (dkAt dk_X12_go 16 rfl) 25 rfl ?_
    refine x_aload_n C rfl rfl (dkAt dk_X12_go 17 rfl) 26 rfl ?_
    refine x_getI C lk_RX12_70 (hL.2.1 109 (18, 17) rfl) (dkAt dk_X12_go 18 rfl) 29 rfl hf (fun v9 hf => ?_)
    refine x_icmp_ge C 202 (dkAt dk_X12_go 19 rfl) 32 rfl (by decide) hf (fun hf => ?_) (fun hf => ?_)
    · refine x_iload_n C rfl rfl (dkAt dk_X12_go 124 rfl) 203 rfl ?_
      exact x_iret C E hf (by decide) (by decide) (dkAt dk_X12_go 125 rfl)
    · refine x_aload_n C rfl rfl (dkAt dk_X12_go 20 rfl) 33 rfl ?_
      refine x_bipush C (v := (10 : Int32)) (by decide) (dkAt dk_X12_go 21 rfl) 35 rfl ?_
      obtain ⟨v10, M11, h12, hf⟩ := cl_inv hf
      refine x_cVi C (c_X12_draw hL h12) mw_X12_draw ln_RX12_141 mi_X12_draw (show RC _ 109 RX12 from ⟨12, 17, _, (hL.2.1 109 (18, 17) rfl), rc12, rfl⟩) (ro_of (by decide) (by decide) (by decide) (by decide)) rfl rfl (Nat.le_of_ble_eq_true rfl) (dkAt dk_X12_go 22 rfl) 38 rfl _ _ rfl rfl ?_
      change G Γ X M11 (0) (6 * (0)) [some (.ref (wad Γ 109)), some (.int x5), some (.int x6), some (.int x7)] [.int v10] 38
      refine x_istore C (L1 := [some (.ref (wad Γ 109)), some (.int x5), some (.int x6), some (.int x7), some (.int v10)]) (dkAt dk_X12_go 23 rfl) 40 rfl (by decide) rfl ?_
      refine x_iconst C (v := (0 : Int32)) (by decide) (dkAt dk_X12_go 24 rfl) 41 rfl ?_
      refine x_istore C (L1 := [some (.ref (wad Γ 109)), some (.int x5), some (.int x6), some (.int x7), some (.int v10), some (.int (0 : Int32))]) (dkAt dk_X12_go 25 rfl) 43 rfl (by decide) rfl ?_
      refine x_iconst C (v := (0 : Int32)) (by decide) (dkAt dk_X12_go 26 rfl) 44 rfl ?_
      refine x_istore C (L1 := [some (.ref (wad Γ 109)), some (.int x5), some (.int x6), some (.int x7), some (.int v10), some (.int (0 : Int32)), none, some (.int (0 : Int32))]) (dkAt dk_X12_go 27 rfl) 46 rfl (by decide) rfl ?_
      refine x_aload_n C rfl rfl (dkAt dk_X12_go 28 rfl) 47 rfl ?_
      refine x_getS C lk_RX12_32 (hL.2.1 109 (18, 17) rfl) (hL.2.2.2 109 9 119 rfl) (dkAt dk_X12_go 29 rfl) 50 rfl ?_
      refine x_iload_n C rfl rfl (dkAt dk_X12_go 30 rfl) 51 rfl ?_
      refine x_qald C (k9 := 1) (n := 6) (by decide) (by decide) (hL.2.1 119 (5, 1006) rfl) (dkAt dk_X12_go 31 rfl) 52 rfl hf (fun o13 h_o13 hf => ?_)
      refine x_iconst C (v := (0 : Int32)) (by decide) (dkAt dk_X12_go 32 rfl) 53 rfl ?_
      refine x_iald C (hL.2.2.1 _ _ h_o13) (dkAt dk_X12_go 33 rfl) 54 rfl hf (fun v14 hf => ?_)
      refine x_istore C (L1 := [some (.ref (wad Γ 109)), some (.int x5), some (.int x6), some (.int x7), some (.int v10), some (.int (0 : Int32)), none, some (.int (0 : Int32)), some (.int v14)]) (dkAt dk_X12_go 34 rfl) 56 rfl (by decide) rfl ?_
      refine G.weak (L := [some (.ref (wad Γ 109)), some (.int x5), some (.int x6), some (.int x7), some (.int v10), some (.int (0 : Int32)), none, some (.int (0 : Int32)), some (.int v14)]) ⟨rfl, rfl, rfl, rfl, rfl, rfl, rfl, rfl, trivial⟩ ?_
      refine l_X12_go_L56 hL C E ?_ Z _ _ hf
      intro y19 hf
      refine x_aload_n C rfl rfl (dkAt dk_X12_go 49 rfl) 84 rfl ?_
      refine x_bipush C (v := (100 : Int32)) (by decide) (dkAt dk_X12_go 50 rfl) 86 rfl ?_
      obtain ⟨v20, M21, h22, hf⟩ := cl_inv hf
      refine x_cVi C (c_X12_draw hL h22) mw_X12_draw ln_RX12_141 mi_X12_draw (show RC _ 109 RX12 from ⟨12, 17, _, (hL.2.1 109 (18, 17) rfl), rc12, rfl⟩) (ro_of (by decide) (by decide) (by decide) (by decide)) rfl rfl (Nat.le_of_ble_eq_true rfl) (dkAt dk_X12_go 51 rfl) 89 rfl _ _ rfl rfl ?_
      change G Γ X M21 (0) (6 * (0)) [some (.ref (wad Γ 109)), some (.int x5), some (.int x6), some (.int x7), none, some (.int y19), none, some (.int (0 : Int32))] [.int v20] 89
      refine x_istore C (L1 := [some (.ref (wad Γ 109)), some (.int x5), some (.int x6), some (.int x7), none, some (.int y19), some (.int v20), some (.int (0 : Int32))]) (dkAt dk_X12_go 52 rfl) 91 rfl (by decide) rfl ?_
      refine x_aload_n C rfl rfl (dkAt dk_X12_go 53 rfl) 92 rfl ?_
      refine x_getS C lk_RX12_40 (hL.2.1 109 (18, 17) rfl) (hL.2.2.2 109 11 151 rfl) (dkAt dk_X12_go 54 rfl) 95 rfl ?_
      refine x_iload_n C rfl rfl (dkAt dk_X12_go 55 rfl) 96 rfl ?_
      refine x_qald C (k9 := 2) (n := 6) (by decide) (by decide) (hL.2.1 151 (5, 2006) rfl) (dkAt dk_X12_go 56 rfl) 97 rfl hf (fun o23 h_o23 hf => ?_)
      refine x_iload C rfl (dkAt dk_X12_go 57 rfl) 99 rfl ?_
      refine x_qald C (k9 := 1) (n := 3) (by decide) (by decide) (hL.2.2.1 _ _ h_o23) (dkAt dk_X12_go 58 rfl) 100 rfl hf (fun o24 h_o24 hf => ?_)
      refine x_aload_n C rfl rfl (dkAt dk_X12_go 59 rfl) 101 rfl ?_
      refine x_getS C lk_RX12_43 (hL.2.1 109 (18, 17) rfl) (hL.2.2.2 109 12 176 rfl) (dkAt dk_X12_go 60 rfl) 104 rfl ?_
      refine x_iload_n C rfl rfl (dkAt dk_X12_go 61 rfl) 105 rfl ?_
      refine x_qald C (k9 := 2) (n := 6) (by decide) (by decide) (hL.2.1 176 (5, 2006) rfl) (dkAt dk_X12_go 62 rfl) 106 rfl hf (fun o25 h_o25 hf => ?_)
      refine x_iload C rfl (dkAt dk_X12_go 63 rfl) 108 rfl ?_
      refine x_qald C (k9 := 1) (n := 3) (by decide) (by decide) (hL.2.2.1 _ _ h_o25) (dkAt dk_X12_go 64 rfl) 109 rfl hf (fun o26 h_o26 hf => ?_)
      refine x_iconst C (v := (0 : Int32)) (by decide) (dkAt dk_X12_go 65 rfl) 110 rfl ?_
      refine x_iald C (hL.2.2.1 _ _ h_o26) (dkAt dk_X12_go 66 rfl) 111 rfl hf (fun v27 hf => ?_)
      refine x_iald C (hL.2.2.1 _ _ h_o24) (dkAt dk_X12_go 67 rfl) 112 rfl hf (fun v28 hf => ?_)
      refine x_istore C (L1 := [some (.ref (wad Γ 109)), some (.int x5), some (.int x6), some (.int x7), none, some (.int y19), some (.int v20), some (.int (0 : Int32)), some (.int v28)]) (dkAt dk_X12_go 68 rfl) 114 rfl (by decide) rfl ?_
      refine G.weak (L := [some (.ref (wad Γ 109)), some (.int x5), some (.int x6), some (.int x7), none, some (.int y19), some (.int v20), some (.int (0 : Int32)), some (.int v28)]) ⟨rfl, rfl, rfl, rfl, rfl, rfl, rfl, rfl, trivial⟩ ?_
      refine l_X12_go_L114 hL C E ?_ Z _ _ hf
      intro y37 hf
      refine x_iload_n C rfl rfl (dkAt dk_X12_go 92 rfl) 155 rfl ?_
      refine x_aload_n C rfl rfl (dkAt dk_X12_go 93 rfl) 156 rfl ?_
      refine x_getS C lk_RX12_29 (hL.2.1 109 (18, 17) rfl) (hL.2.2.2 109 8 112 rfl) (dkAt dk_X12_go 94 rfl) 159 rfl ?_
      refine x_iload_n C rfl rfl (dkAt dk_X12_go 95 rfl) 160 rfl ?_
      refine x_qald C (k9 := 1) (n := 6) (by decide) (by decide) (hL.2.1 112 (5, 1006) rfl) (dkAt dk_X12_go 96 rfl) 161 rfl hf (fun o38 h_o38 hf => ?_)
      refine x_iload C rfl (dkAt dk_X12_go 97 rfl) 163 rfl ?_
      refine x_iald C (hL.2.2.1 _ _ h_o38) (dkAt dk_X12_go 98 rfl) 164 rfl hf (fun v39 hf => ?_)
      refine x_iadd C (dkAt dk_X12_go 99 rfl) 165 rfl ?_
      refine x_istore_n C (L1 := [some (.ref (wad Γ 109)), some (.int x5), some (.int (x6 + v39)), some (.int x7), none, some (.int y19), none, some (.int y37)]) (dkAt dk_X12_go 100 rfl) 166 rfl rfl (by decide) rfl ?_
      refine x_aload_n C rfl rfl (dkAt dk_X12_go 101 rfl) 167 rfl ?_
      refine x_getS C lk_RX12_58 (hL.2.1 109 (18, 17) rfl) (hL.2.2.2 109 16 209 rfl) (dkAt dk_X12_go 102 rfl) 170 rfl ?_
      refine x_iload_n C rfl rfl (dkAt dk_X12_go 103 rfl) 171 rfl ?_
      refine x_iload C rfl (dkAt dk_X12_go 104 rfl) 173 rfl ?_
      refine x_iast C (hL.2.1 209 (0, 5) rfl) (dkAt dk_X12_go 105 rfl) 174 rfl hf (fun M40 hf => ?_)
      refine x_aload_n C rfl rfl (dkAt dk_X12_go 106 rfl) 175 rfl ?_
      refine x_getS C lk_RX12_43 (hL.2.1 109 (18, 17) rfl) (hL.2.2.2 109 12 176 rfl) (dkAt dk_X12_go 107 rfl) 178 rfl ?_
      refine x_iload_n C rfl rfl (dkAt dk_X12_go 108 rfl) 179 rfl ?_
      refine x_qald C (k9 := 2) (n := 6) (by decide) (by decide) (hL.2.1 176 (5, 2006) rfl) (dkAt dk_X12_go 109 rfl) 180 rfl hf (fun o41 h_o41 hf => ?_)
      refine x_iload C rfl (dkAt dk_X12_go 110 rfl) 182 rfl ?_
      refine x_qald C (k9 := 1) (n := 3) (by decide) (by decide) (hL.2.2.1 _ _ h_o41) (dkAt dk_X12_go 111 rfl) 183 rfl hf (fun o42 h_o42 hf => ?_)
      refine x_iload C rfl (dkAt dk_X12_go 112 rfl) 185 rfl ?_
      refine x_iald C (hL.2.2.1 _ _ h_o42) (dkAt dk_X12_go 113 rfl) 186 rfl hf (fun v43 hf => ?_)
      refine x_istore_n C (L1 := [some (.ref (wad Γ 109)), some (.int v43), some (.int (x6 + v39)), some (.int x7), none, some (.int y19), none, some (.int y37)]) (dkAt dk_X12_go 114 rfl) 187 rfl rfl (by decide) rfl ?_
      refine x_aload_n C rfl rfl (dkAt dk_X12_go 115 rfl) 188 rfl ?_
      refine x_getS C lk_RX12_55 (hL.2.1 109 (18, 17) rfl) (hL.2.2.2 109 15 208 rfl) (dkAt dk_X12_go 116 rfl) 191 rfl ?_
      refine x_iload_n C rfl rfl (dkAt dk_X12_go 117 rfl) 192 rfl ?_
      refine x_iconst C (v := (1 : Int32)) (by decide) (dkAt dk_X12_go 118 rfl) 193 rfl ?_
      refine x_iadd C (dkAt dk_X12_go 119 rfl) 194 rfl ?_
      refine x_iload_n C rfl rfl (dkAt dk_X12_go 120 rfl) 195 rfl ?_
      refine x_iast C (hL.2.1 208 (0, 6) rfl) (dkAt dk_X12_go 121 rfl) 196 rfl hf (fun M44 hf => ?_)
      refine x_iinc C (v := (x7 + (1 : Int32))) (L1 := [some (.ref (wad Γ 109)), some (.int v43), some (.int (x6 + v39)), some (.int (x7 + (1 : Int32))), none, some (.int y19), none, some (.int y37)]) (dkAt dk_X12_go 122 rfl) 199 rfl rfl rfl (by decide) rfl ?_
      refine x_goto C 24 (dkAt dk_X12_go 123 rfl) (by decide) ?_
      exact G.weak (L := [some (.ref (wad Γ 109)), some (.int v43), some (.int (x6 + v39)), some (.int (x7 + (1 : Int32)))]) ⟨rfl, rfl, rfl, rfl, trivial⟩ (ih _ _ _ _ hf)
set_option maxRecDepth 100000 in
theorem c_X12_go {Γ : WC} {sh : Nat → Option SE} (hL : HLa Γ sh) {Z : Nat} {M : Mem}  {rM : Int32 × Mem} (hf : f_X12_go sh Z M  = some rM) : Ct Γ yX12_go cX12_go 9 (some .int) (rmL 3 0 (6 * 0)) [.ref (wad Γ 109)] M (some (.int rM.1)) rM.2 := by
  refine mkN hL.1.1 (own := RX12) rfl (by decide) (Nat.le_of_ble_eq_true rfl) (fun X C E => ?_)
  change G Γ X M (0) (6 * (0)) [some (.ref (wad Γ 109))] [] 0
  unfold f_X12_go at hf
  refine x_aload_n C rfl rfl (dkAt dk_X12_go 0 rfl) 1 rfl ?_
  refine x_getI C lk_RX12_100 (hL.2.1 109 (18, 17) rfl) (dkAt dk_X12_go 1 rfl) 4 rfl hf (fun v1 hf => ?_)
  refine x_istore_n C (L1 := [some (.ref (wad Γ 109)), some (.int v1)]) (dkAt dk_X12_go 2 rfl) 5 rfl rfl (by decide) rfl ?_
  refine x_iconst C (v := (0 : Int32)) (by decide) (dkAt dk_X12_go 3 rfl) 6 rfl ?_
  refine x_istore_n C (L1 := [some (.ref (wad Γ 109)), some (.int v1), some (.int (0 : Int32))]) (dkAt dk_X12_go 4 rfl) 7 rfl rfl (by decide) rfl ?_
  refine x_aload_n C rfl rfl (dkAt dk_X12_go 5 rfl) 8 rfl ?_
  refine x_getS C lk_RX12_55 (hL.2.1 109 (18, 17) rfl) (hL.2.2.2 109 15 208 rfl) (dkAt dk_X12_go 6 rfl) 11 rfl ?_
  refine x_iconst C (v := (0 : Int32)) (by decide) (dkAt dk_X12_go 7 rfl) 12 rfl ?_
  refine x_iload_n C rfl rfl (dkAt dk_X12_go 8 rfl) 13 rfl ?_
  refine x_iast C (hL.2.1 208 (0, 6) rfl) (dkAt dk_X12_go 9 rfl) 14 rfl hf (fun M2 hf => ?_)
  refine x_aload_n C rfl rfl (dkAt dk_X12_go 10 rfl) 15 rfl ?_
  refine x_aload_n C rfl rfl (dkAt dk_X12_go 11 rfl) 16 rfl ?_
  refine x_getI C lk_RX12_70 (hL.2.1 109 (18, 17) rfl) (dkAt dk_X12_go 12 rfl) 19 rfl hf (fun v3 hf => ?_)
  refine x_putI C pk_RX12_51 ⟨_, rfl⟩ (hL.2.1 109 (18, 17) rfl) (dkAt dk_X12_go 13 rfl) 22 rfl hf (fun M4 hf => ?_)
  refine x_iconst C (v := (0 : Int32)) (by decide) (dkAt dk_X12_go 14 rfl) 23 rfl ?_
  refine x_istore_n C (L1 := [some (.ref (wad Γ 109)), some (.int v1), some (.int (0 : Int32)), some (.int (0 : Int32))]) (dkAt dk_X12_go 15 rfl) 24 rfl rfl (by decide) rfl ?_
  refine G.weak (L := [some (.ref (wad Γ 109)), some (.int v1), some (.int (0 : Int32)), some (.int (0 : Int32))]) ⟨rfl, rfl, rfl, rfl, trivial⟩ ?_
  refine l_X12_go_L24 hL C E Z _ _ _ _ hf
def f_L_hit_L9 (sh : Nat → Option SE) (Z : Nat) (rc : Mem → Int32 → Int32 → Int32 → Option (Int64 × Mem)) (M : Mem) (p1 : Int32) (p2 : Int32) (p3 : Int32) (k : Int64 → Option (Int64 × Mem)) : Nat → Int64 → Int32 → Option (Int64 × Mem)
  | 0, _, _ => none
  | n + 1, x1, x2 => (if p3 ≤ x2 then k x1 else f_L_hit_L9 sh Z rc M p1 p2 p3 k n (x1 * (1000 : Int64)) (x2 + (1 : Int32)))
def f_L_hit_L40 (sh : Nat → Option SE) (Z : Nat) (rc : Mem → Int32 → Int32 → Int32 → Option (Int64 × Mem)) (p1 : Int32) (p2 : Int32) (p3 : Int32) : Nat → Int64 → Int32 → Mem → Option (Int64 × Mem)
  | 0, _, _, _ => none
  | n + 1, x4, x5, M6 => bd (gI M6 (109) 1) (fun v7 => (if v7 ≤ x5 then some (x4, M6) else (if p3 ≤ 0 then some (x4, M6) else cl (f_X12_step sh Z M6 p1 x5) (fun v8 M9 => jn (fun (t11 : Int64 × Mem) => f_L_hit_L40 sh Z rc p1 p2 p3 n t11.1 (x5 + (1 : Int32)) t11.2) (fun j12 => (if v8 ≤ 0 then j12 (x4, M9) else cl (f_X12_step sh Z M9 p1 x5) (fun v13 M14 => cl (rc M14 x5 p2 (p3 - (1 : Int32))) (fun v16 M17 => j12 ((x4 + (v13.toInt64 * v16)), M17)))))))))
def f_L_hit_B (sh : Nat → Option SE) (Z : Nat) (rc : Mem → Int32 → Int32 → Int32 → Option (Int64 × Mem)) (M : Mem) (p1 : Int32) (p2 : Int32) (p3 : Int32) : Option (Int64 × Mem) :=
  f_L_hit_L9 sh Z rc M p1 p2 p3 (fun (y3 : Int64) => (if p1 = p2 then some (y3, M) else f_L_hit_L40 sh Z rc p1 p2 p3 Z (0 : Int64) (0 : Int32) M)) Z (1 : Int64) (0 : Int32)
set_option maxRecDepth 100000 in
theorem l_L_hit_L9 {Γ : WC} {X : MX} {sh : Nat → Option SE} (hL : HLa Γ sh) {nR : Nat} {rc : Mem → Int32 → Int32 → Int32 → Option (Int64 × Mem)} (ihr : ∀ (M : Mem) (p1 : Int32) (p2 : Int32) (p3 : Int32) (rM : Int64 × Mem), rc M p1 p2 p3 = some rM → Ct Γ yL_hit cL_hit 9 (some .long) (rmL (nR + 1) 0 0) [.ref (wad Γ 109), .int p1, .int p2, .int p3] M (some (.long rM.1)) rM.2) (C : CX Γ X cL_hit 9 RL (some .long) (rmL (nR + 2) 0 0)) {rM : Int64 × Mem} (E : EndN Γ X (some (.long rM.1)) rM.2 0 (6 * 0)) {Z : Nat} {M : Mem} {p1 : Int32} {p2 : Int32} {p3 : Int32} {k : Int64 → Option (Int64 × Mem)} (hk : ∀ (a6 : Int64), k a6 = some rM → G Γ X M (0) (6 * (0)) [some (.ref (wad Γ 109)), some (.int p1), some (.int p2), some (.int p3), some (.long (0 : Int64)), none, some (.long a6)] [] 29) : ∀ (n : Nat) (x1 : Int64) (x2 : Int32), f_L_hit_L9 sh Z rc M p1 p2 p3 k n x1 x2 = some rM → G Γ X M (0) (6 * (0)) [some (.ref (wad Γ 109)), some (.int p1), some (.int p2), some (.int p3), some (.long (0 : Int64)), none, some (.long x1), none, some (.int x2)] [] 9 := by
  intro n
  induction n with
  | zero =>
    intro x1 x2 hf
    have hf0 : (none : Option _) = some rM := hf
    cases hf0
  | succ n ih =>
    intro x1 x2 hf
    rw [f_L_hit_L9] at hf
    refine x_iload C rfl (dkAt dk_L_hit 6 rfl) 11 rfl ?_
    refine x_iload_n C rfl rfl (dkAt dk_L_hit 7 rfl) 12 rfl ?_
    refine x_icmp_ge C 29 (dkAt dk_L_hit 8 rfl) 15 rfl (by decide) hf (fun hf => ?_) (fun hf => ?_)
    · exact G.weak (L := [some (.ref (wad Γ 109)), some (.int p1), some (.int p2), some (.int p3), some (.long (0 : Int64)), none, some (.long x1)]) ⟨rfl, rfl, rfl, rfl, rfl, rfl, trivial⟩ (hk _ hf)
    · refine x_lload C rfl (dkAt dk_L_hit 9 rfl) 17 rfl ?_
      refine x_ldc2 C (v := (1000 : Int64)) cl_RL_219 (dkAt dk_L_hit 10 rfl) 20 rfl ?_
      refine x_lmul C (dkAt dk_L_hit 11 rfl) 21 rfl ?_
      refine x_lstore C (L1 := [some (.ref (wad Γ 109)), some (.int p1), some (.int p2), some (.int p3), some (.long (0 : Int64)), none, some (.long (x1 * (1000 : Int64))), none, some (.int x2)]) (dkAt dk_L_hit 12 rfl) 23 rfl (by decide) rfl ?_
      refine x_iinc C (v := (x2 + (1 : Int32))) (L1 := [some (.ref (wad Γ 109)), some (.int p1), some (.int p2), some (.int p3), some (.long (0 : Int64)), none, some (.long (x1 * (1000 : Int64))), none, some (.int (x2 + (1 : Int32)))]) (dkAt dk_L_hit 13 rfl) 26 rfl rfl rfl (by decide) rfl ?_
      refine x_goto C 9 (dkAt dk_L_hit 14 rfl) (by decide) ?_
      exact G.weak (L := [some (.ref (wad Γ 109)), some (.int p1), some (.int p2), some (.int p3), some (.long (0 : Int64)), none, some (.long (x1 * (1000 : Int64))), none, some (.int (x2 + (1 : Int32)))]) ⟨rfl, rfl, rfl, rfl, rfl, rfl, rfl, trivial⟩ (ih _ _ hf)
set_option maxRecDepth 100000 in
theorem l_L_hit_L40 {Γ : WC} {X : MX} {sh : Nat → Option SE} (hL : HLa Γ sh) {nR : Nat} {rc : Mem → Int32 → Int32 → Int32 → Option (Int64 × Mem)} (ihr : ∀ (M : Mem) (p1 : Int32) (p2 : Int32) (p3 : Int32) (rM : Int64 × Mem), rc M p1 p2 p3 = some rM → Ct Γ yL_hit cL_hit 9 (some .long) (rmL (nR + 1) 0 0) [.ref (wad Γ 109), .int p1, .int p2, .int p3] M (some (.long rM.1)) rM.2) (C : CX Γ X cL_hit 9 RL (some .long) (rmL (nR + 2) 0 0)) {rM : Int64 × Mem} (E : EndN Γ X (some (.long rM.1)) rM.2 0 (6 * 0)) {Z : Nat} {p1 : Int32} {p2 : Int32} {p3 : Int32} : ∀ (n : Nat) (x4 : Int64) (x5 : Int32) (M6 : Mem), f_L_hit_L40 sh Z rc p1 p2 p3 n x4 x5 M6 = some rM → G Γ X M6 (0) (6 * (0)) [some (.ref (wad Γ 109)), some (.int p1), some (.int p2), some (.int p3), some (.long x4), none, none, none, some (.int x5)] [] 40 := by
  intro n
  induction n with
  | zero =>
    intro x4 x5 M6 hf
    have hf0 : (none : Option _) = some rM := hf
    cases hf0
  | succ n ih =>
    intro x4 x5 M6 hf
    rw [f_L_hit_L40] at hf
    refine x_iload C rfl (dkAt dk_L_hit 22 rfl) 42 rfl ?_
    refine x_aload_n C rfl rfl (dkAt dk_L_hit 23 rfl) 43 rfl ?_
    refine x_getIn C nlk_RL_133 (hL.2.1 109 (18, 17) rfl) (dkAt dk_L_hit 24 rfl) 46 rfl hf (fun v7 hf => ?_)
    refine x_icmp_ge C 93 (dkAt dk_L_hit 25 rfl) 49 rfl (by decide) hf (fun hf => ?_) (fun hf => ?_)
    · refine x_lload C rfl (dkAt dk_L_hit 51 rfl) 95 rfl ?_
      exact x_lret C E hf (Nat.zero_le _) (Nat.zero_le _) (dkAt dk_L_hit 52 rfl)
    · refine x_iload_n C rfl rfl (dkAt dk_L_hit 26 rfl) 50 rfl ?_
      refine x_if_le C 93 (dkAt dk_L_hit 27 rfl) 53 rfl (by decide) hf (fun hf => ?_) (fun hf => ?_)
      · refine x_lload C rfl (dkAt dk_L_hit 51 rfl) 95 rfl ?_
        exact x_lret C E hf (Nat.zero_le _) (Nat.zero_le _) (dkAt dk_L_hit 52 rfl)
      · refine x_aload_n C rfl rfl (dkAt dk_L_hit 28 rfl) 54 rfl ?_
        refine x_iload_n C rfl rfl (dkAt dk_L_hit 29 rfl) 55 rfl ?_
        refine x_iload C rfl (dkAt dk_L_hit 30 rfl) 57 rfl ?_
        obtain ⟨v8, M9, h10, hf⟩ := cl_inv hf
        refine x_cVi C (c_X12_step hL h10) mw_X12_step ln_RL_221 mi_X12_step (show RC _ 109 RX12 from ⟨12, 17, _, (hL.2.1 109 (18, 17) rfl), rc12, rfl⟩) (ro_of (by omega) (by decide) (by decide) (by decide)) rfl rfl (Nat.le_of_ble_eq_true rfl) (dkAt dk_L_hit 31 rfl) 60 rfl _ _ rfl rfl ?_
        change G Γ X M9 (0) (6 * (0)) [some (.ref (wad Γ 109)), some (.int p1), some (.int p2), some (.int p3), some (.long x4), none, none, none, some (.int x5)] [.int v8] 60
        refine x_join hf (fun t11 => G Γ X t11.2 (0) (6 * (0)) [some (.ref (wad Γ 109)), some (.int p1), some (.int p2), some (.int p3), some (.long t11.1), none, none, none, some (.int x5)] [] 87) (fun t11 hf => ?_) (fun j12 hj12 hf => ?_)
        · refine x_iinc C (v := (x5 + (1 : Int32))) (L1 := [some (.ref (wad Γ 109)), some (.int p1), some (.int p2), some (.int p3), some (.long t11.1), none, none, none, some (.int (x5 + (1 : Int32)))]) (dkAt dk_L_hit 49 rfl) 90 rfl rfl rfl (by decide) rfl ?_
          refine x_goto C 40 (dkAt dk_L_hit 50 rfl) (by decide) ?_
          exact G.weak (L := [some (.ref (wad Γ 109)), some (.int p1), some (.int p2), some (.int p3), some (.long t11.1), none, none, none, some (.int (x5 + (1 : Int32)))]) ⟨rfl, rfl, rfl, rfl, rfl, rfl, trivial⟩ (ih _ _ _ hf)
        · refine x_if_le C 87 (dkAt dk_L_hit 32 rfl) 63 rfl (by decide) hf (fun hf => ?_) (fun hf => ?_)
          · exact G.weak (L := [some (.ref (wad Γ 109)), some (.int p1), some (.int p2), some (.int p3), some (.long x4), none, none, none, some (.int x5)]) ⟨rfl, rfl, rfl, rfl, rfl, rfl, trivial⟩ (hj12 _ hf)
          · refine x_lload C rfl (dkAt dk_L_hit 33 rfl) 65 rfl ?_
            refine x_aload_n C rfl rfl (dkAt dk_L_hit 34 rfl) 66 rfl ?_
            refine x_iload_n C rfl rfl (dkAt dk_L_hit 35 rfl) 67 rfl ?_
            refine x_iload C rfl (dkAt dk_L_hit 36 rfl) 69 rfl ?_
            obtain ⟨v13, M14, h15, hf⟩ := cl_inv hf
            refine x_cVi C (c_X12_step hL h15) mw_X12_step ln_RL_221 mi_X12_step (show RC _ 109 RX12 from ⟨12, 17, _, (hL.2.1 109 (18, 17) rfl), rc12, rfl⟩) (ro_of (by omega) (by decide) (by decide) (by decide)) rfl rfl (Nat.le_of_ble_eq_true rfl) (dkAt dk_L_hit 37 rfl) 72 rfl _ _ rfl rfl ?_
            change G Γ X M14 (0) (6 * (0)) [some (.ref (wad Γ 109)), some (.int p1), some (.int p2), some (.int p3), some (.long x4), none, none, none, some (.int x5)] [.int v13, .long x4] 72
            refine x_i2l C (dkAt dk_L_hit 38 rfl) 73 rfl ?_
            refine x_aload_n C rfl rfl (dkAt dk_L_hit 39 rfl) 74 rfl ?_
            refine x_iload C rfl (dkAt dk_L_hit 40 rfl) 76 rfl ?_
            refine x_iload_n C rfl rfl (dkAt dk_L_hit 41 rfl) 77 rfl ?_
            refine x_iload_n C rfl rfl (dkAt dk_L_hit 42 rfl) 78 rfl ?_
            refine x_iconst C (v := (1 : Int32)) (by decide) (dkAt dk_L_hit 43 rfl) 79 rfl ?_
            refine x_isub C (dkAt dk_L_hit 44 rfl) 80 rfl ?_
            obtain ⟨v16, M17, h18, hf⟩ := cl_inv hf
            refine x_cSl C (ihr _ _ _ _ _ h18) mw_L_hit ln_RL_224 ms_L_hit (ro_of (by omega) (by decide) (by decide) (by decide)) rfl rfl (Nat.le_of_ble_eq_true rfl) (dkAt dk_L_hit 45 rfl) 83 rfl _ _ rfl rfl ?_
            change G Γ X M17 (0) (6 * (0)) [some (.ref (wad Γ 109)), some (.int p1), some (.int p2), some (.int p3), some (.long x4), none, none, none, some (.int x5)] [.long v16, .long v13.toInt64, .long x4] 83
            refine x_lmul C (dkAt dk_L_hit 46 rfl) 84 rfl ?_
            refine x_ladd C (dkAt dk_L_hit 47 rfl) 85 rfl ?_
            refine x_lstore C (L1 := [some (.ref (wad Γ 109)), some (.int p1), some (.int p2), some (.int p3), some (.long (x4 + (v13.toInt64 * v16))), none, none, none, some (.int x5)]) (dkAt dk_L_hit 48 rfl) 87 rfl (by decide) rfl ?_
            exact G.weak (L := [some (.ref (wad Γ 109)), some (.int p1), some (.int p2), some (.int p3), some (.long (x4 + (v13.toInt64 * v16))), none, none, none, some (.int x5)]) ⟨rfl, rfl, rfl, rfl, rfl, rfl, trivial⟩ (hj12 _ hf)
set_option maxRecDepth 100000 in
theorem c_L_hit_B {Γ : WC} {sh : Nat → Option SE} (hL : HLa Γ sh) {nR : Nat} {rc : Mem → Int32 → Int32 → Int32 → Option (Int64 × Mem)} (ihr : ∀ (M : Mem) (p1 : Int32) (p2 : Int32) (p3 : Int32) (rM : Int64 × Mem), rc M p1 p2 p3 = some rM → Ct Γ yL_hit cL_hit 9 (some .long) (rmL (nR + 1) 0 0) [.ref (wad Γ 109), .int p1, .int p2, .int p3] M (some (.long rM.1)) rM.2) {Z : Nat} {M : Mem} {p1 : Int32} {p2 : Int32} {p3 : Int32} {rM : Int64 × Mem} (hf : f_L_hit_B sh Z rc M p1 p2 p3 = some rM) : Ct Γ yL_hit cL_hit 9 (some .long) (rmL (nR + 2) 0 0) [.ref (wad Γ 109), .int p1, .int p2, .int p3] M (some (.long rM.1)) rM.2 := by
  refine mkN hL.1.1 (own := RL) rfl (by decide) (Nat.le_of_ble_eq_true rfl) (fun X C E => ?_)
  change G Γ X M (0) (6 * (0)) [some (.ref (wad Γ 109)), some (.int p1), some (.int p2), some (.int p3)] [] 0
  unfold f_L_hit_B at hf
  refine x_lconst C (v := (0 : Int64)) (by decide) (dkAt dk_L_hit 0 rfl) 1 rfl ?_
  refine x_lstore C (L1 := [some (.ref (wad Γ 109)), some (.int p1), some (.int p2), some (.int p3), some (.long (0 : Int64))]) (dkAt dk_L_hit 1 rfl) 3 rfl (by decide) rfl ?_
  refine x_lconst C (v := (1 : Int64)) (by decide) (dkAt dk_L_hit 2 rfl) 4 rfl ?_
  refine x_lstore C (L1 := [some (.ref (wad Γ 109)), some (.int p1), some (.int p2), some (.int p3), some (.long (0 : Int64)), none, some (.long (1 : Int64))]) (dkAt dk_L_hit 3 rfl) 6 rfl (by decide) rfl ?_
  refine x_iconst C (v := (0 : Int32)) (by decide) (dkAt dk_L_hit 4 rfl) 7 rfl ?_
  refine x_istore C (L1 := [some (.ref (wad Γ 109)), some (.int p1), some (.int p2), some (.int p3), some (.long (0 : Int64)), none, some (.long (1 : Int64)), none, some (.int (0 : Int32))]) (dkAt dk_L_hit 5 rfl) 9 rfl (by decide) rfl ?_
  refine G.weak (L := [some (.ref (wad Γ 109)), some (.int p1), some (.int p2), some (.int p3), some (.long (0 : Int64)), none, some (.long (1 : Int64)), none, some (.int (0 : Int32))]) ⟨rfl, rfl, rfl, rfl, rfl, rfl, rfl, trivial⟩ ?_
  refine l_L_hit_L9 hL ihr C E ?_ Z _ _ hf
  intro y3 hf
  refine x_iload_n C rfl rfl (dkAt dk_L_hit 15 rfl) 30 rfl ?_
  refine x_iload_n C rfl rfl (dkAt dk_L_hit 16 rfl) 31 rfl ?_
  refine x_icmp_ne C 37 (dkAt dk_L_hit 17 rfl) 34 rfl (by decide) hf (fun hf => ?_) (fun hf => ?_)
  · refine x_iconst C (v := (0 : Int32)) (by decide) (dkAt dk_L_hit 20 rfl) 38 rfl ?_
    refine x_istore C (L1 := [some (.ref (wad Γ 109)), some (.int p1), some (.int p2), some (.int p3), some (.long (0 : Int64)), none, some (.long y3), none, some (.int (0 : Int32))]) (dkAt dk_L_hit 21 rfl) 40 rfl (by decide) rfl ?_
    refine G.weak (L := [some (.ref (wad Γ 109)), some (.int p1), some (.int p2), some (.int p3), some (.long (0 : Int64)), none, none, none, some (.int (0 : Int32))]) ⟨rfl, rfl, rfl, rfl, rfl, rfl, trivial⟩ ?_
    refine l_L_hit_L40 hL ihr C E Z _ _ _ hf
  · refine x_lload C rfl (dkAt dk_L_hit 18 rfl) 36 rfl ?_
    exact x_lret C E hf (Nat.zero_le _) (Nat.zero_le _) (dkAt dk_L_hit 19 rfl)
def f_L_hit_R (sh : Nat → Option SE) (Z : Nat) : Nat → Mem → Int32 → Int32 → Int32 → Option (Int64 × Mem)
  | 0, _, _, _, _ => none
  | n + 1, M, p1, p2, p3 => f_L_hit_B sh Z (f_L_hit_R sh Z n) M p1 p2 p3
theorem c_L_hit_R {Γ : WC} {sh : Nat → Option SE} (hL : HLa Γ sh) {Z : Nat} : ∀ (n : Nat) (M : Mem) (p1 : Int32) (p2 : Int32) (p3 : Int32) (rM : Int64 × Mem), f_L_hit_R sh Z n M p1 p2 p3 = some rM → Ct Γ yL_hit cL_hit 9 (some .long) (rmL (n + 1) 0 0) [.ref (wad Γ 109), .int p1, .int p2, .int p3] M (some (.long rM.1)) rM.2 := by
  intro n
  induction n with
  | zero =>
    intro M p1 p2 p3 rM hf
    have hf0 : (none : Option _) = some rM := hf
    cases hf0
  | succ n ih =>
    intro M p1 p2 p3 rM hf
    exact c_L_hit_B hL ih hf
def f_L_hit (sh : Nat → Option SE) (Z : Nat) (M : Mem) (p1 : Int32) (p2 : Int32) (p3 : Int32) : Option (Int64 × Mem) := f_L_hit_R sh Z 8 M p1 p2 p3
theorem c_L_hit {Γ : WC} {sh : Nat → Option SE} (hL : HLa Γ sh) {Z : Nat} {M : Mem} {p1 : Int32} {p2 : Int32} {p3 : Int32} {rM : Int64 × Mem} (hf : f_L_hit sh Z M p1 p2 p3 = some rM) : Ct Γ yL_hit cL_hit 9 (some .long) (rmL 9 0 0) [.ref (wad Γ 109), .int p1, .int p2, .int p3] M (some (.long rM.1)) rM.2 := c_L_hit_R hL 8 M p1 p2 p3 rM hf
