/-! a row stored into a row of rows -/
section AstA
variable {p : Program} {l : Launch} {e : Env} {R : Room} {s : State} {m : MethodId} {args : Array Value} {below : List Frame} {meth : Method} {c : Code} {H : Heap} {locs : List Loc} {cells slots : Nat} {Q : State → Prop}
variable {cc : ByteArray} {pc : Nat} {ls : Array Slot} {rest : List Value} {D : va_G} {cl : List vw_C} {A : Nat → Prop} {a : Nat} {ws : va_W} {H0 : Heap}
theorem mz_astA (hexec : p.tables.exec = Jvm.exec) (hb : c.code = cc) (hP : va_P D cl ws H) (hD : va_D A ws) (hS : va_S A H0 H locs) (q0 qk : Nat) {cA c1 : ClassId} {n v nv : Nat} {f : Nat → Option Nat} {g : Nat → Int32} (ha : ws[q0]? = some (a, .inl (cA, n, .inr (.inr (.inr (.inr f)))))) (hv : ws[qk]? = some (v, .inl (c1, nv, .inl g))) {kA k9 : Class} {t0 : FieldType} (k1 : s.vm.classes[cA]? = some kA) (k2 : kA.kind = .array c1 t0) (ht : t0.isReference = true) (hkC : s.vm.classes[c1]? = some k9) {i : Int32} (hin : vp_in i n) (hdg : decode cc pc = .ok (.aastore, 1))
    (kk : ∀ (H1 : Heap) (locs1 : List Loc), va_P D cl (ws.set q0 (a, .inl (cA, n, .inr (.inr (.inr (.inr (va_up f i.toNatClampNeg (some v)))))))) H1 → va_D A (ws.set q0 (a, .inl (cA, n, .inr (.inr (.inr (.inr (va_up f i.toNatClampNeg (some v)))))))) → va_S A H0 H1 locs1 → W p l e R s m args below meth c H1 locs1 cells slots Q (F0 m (pc + 1) ls rest)) : W p l e R s m args below meth c H locs cells slots Q (F0 m pc ls (.ref v :: .int i :: .ref a :: rest)) := by
  have hlt : i.toNatClampNeg < n := Nat.not_le.mp fun q => hin (Or.inr q)
  have h0 : ¬ i < 0 := fun q => hin (Or.inl q)
  refine W.aast hexec hb (hP q0 _ ha) (fun q h => by cases h) (fun h => by cases h) k1 k2 ht hkC ⟨h0, by show _ < (arrV _ _ _).slots.size; rw [arrV_size]; exact hlt⟩ (hP qk _ hv) (fun q h => by cases h) hkC (va_asg _ _) rfl rfl hdg fun H1 e z oq => ?_
  refine kk H1 _ (hP.set hD ha ?_ oq) (hD.set ha) (hS.put z oq (hD.2 q0 _ ha))
  show H1[a]? = some (vp_cell _ _)
  rw [e]
  rw [vp_cell_q, vp_cell_q, arrV_store]
  congr 2
  funext q
  by_cases hq : q = i.toNatClampNeg
  · subst hq
    simp [updV, va_up, va_rf]
  · simp [updV, va_up, hq]
end AstA
theorem x_aastW {Γ : WC} {X : MX} {M : Mem} {cs sl : Nat} {L : List (Option Value)} {st : List Value} {pc : Nat} {cc : ByteArray} {nL : Nat} {own : String} {ret : Option FieldType} {R0 : Room} (C : CX Γ X cc nL own ret R0) (hQ : HQ Γ) {o n v nv : Nat} {i : Int32} (hn : n < 1000) (hk : ∀ M, wK Γ M → wK Γ (sR M o i.toNatClampNeg (some v))) (hs : On Γ o (5, 1000 * 1 + n)) (hv : On Γ v (0, nv)) (hi : inB i n = true) (d : decode cc pc = .ok (.aastore, 1)) (q : Nat) (hq : pc + 1 = q) (K : G Γ X (sR M o i.toNatClampNeg (some v)) cs sl L st q) : G Γ X M cs sl L (.ref (wad Γ v) :: .int i :: .ref (wad Γ o) :: st) pc := by
  subst hq
  obtain ⟨p, e, R, s, m, args, below, meth, c, Q⟩ := X
  obtain ⟨hx, hb, hml, hown, hts, hW, hlk, hret, hR, hK, hSs, hG⟩ := C
  intro H locs ls a1 a2 a3 a4 a5
  obtain ⟨⟨⟨k6, z1, z2⟩, -⟩, -, -, ⟨k0, comp, z3, z4⟩, -⟩ := hQ
  obtain ⟨k6', w1, w2⟩ := hW.alike.2.2 _ _ z1
  obtain ⟨k0', w3, w4⟩ := hW.alike.2.2 _ _ z3
  have zc : ∀ (M : Mem), cE (wA Γ) (wad Γ) M o (5, 1000 * 1 + n) = .inl (wA Γ 6, n, .inr (.inr (.inr (.inr (fun j => (gR M o j).map (wad Γ)))))) := fun M => cE_q (dA := wA Γ) (ad := wad Γ) (M := M) (o := o) (k := 1) hn
  have hs1 : (wO Γ M)[px Γ o]? = some (wad Γ o, .inl (wA Γ 6, n, .inr (.inr (.inr (.inr (fun j => (gR M o j).map (wad Γ))))))) := by rw [wO_at hs, zc]
  have hv1 : (wO Γ M)[px Γ v]? = some (wad Γ v, .inl (wA Γ 0, nv, .inl (gI M v))) := wO_at hv
  refine mz_astA hx hb a2 a3 a4 (px Γ o) (px Γ v) hs1 hv1 w1 (by rw [w2]; exact z2) rfl w3 (inB_in hi) d (fun H1 locs1 hP1 hD1 hS1 => ?_)
  have e1 : (wO Γ M).set (px Γ o) (wad Γ o, cE (wA Γ) (wad Γ) (sR M o i.toNatClampNeg (some v)) o (5, 1000 * 1 + n)) = wO Γ (sR M o i.toNatClampNeg (some v)) := wO_set hs (fun a ha q => cE_sR ha q)
  have e2 : (fun j => (gR (sR M o i.toNatClampNeg (some v)) o j).map (wad Γ)) = va_up (fun j => (gR M o j).map (wad Γ)) i.toNatClampNeg (some (wad Γ v)) := by
    funext j
    simp only [gR_sR, va_up, true_and]
    split <;> rfl
  have e3 : cE (wA Γ) (wad Γ) (sR M o i.toNatClampNeg (some v)) o (5, 1000 * 1 + n) = (Sum.inl (wA Γ 6, n, Sum.inr (Sum.inr (Sum.inr (Sum.inr (va_up (fun j => (gR M o j).map (wad Γ)) i.toNatClampNeg (some (wad Γ v))))))) : va_E) := by
    rw [← e2, zc]
  rw [← e3, e1] at hP1 hD1
  exact K H1 locs1 ls (hk _ a1) hP1 hD1 hS1 a5
/-- new contents of the weights' row -/
theorem KB.weight {b : Nat} {M : Mem} {k : Nat} (hb : 214 ≤ b) (hb2 : b < 300) (h : KB b M) : KB (b + 1) (sR M 119 k (some b)) := by
  refine ⟨⟨fun a c j hj => ?_, fun a c j hj => ?_, ?_, fun _ => ?_⟩, fun a c j hj => ?_, ⟨fun a c hj => ?_, fun a c hj => ?_⟩⟩
  · rw [gR_sR, if_neg (fun z => ?_)]
    · exact h.1.1 a c j hj
    · rw [z.1] at hj
      have key : srT 119 c = none := by
        unfold srT
        rw [show srL.getD 119 [] = [] by decide +kernel]
        rfl
      rw [key] at hj
      exact nomatch hj
  · rw [gR_sR, if_neg (by have := srV_lo hj; omega)]
    exact h.1.2.1 a c j hj
  · rw [gR_sR, if_neg (by omega)]
    exact h.1.2.2.1
  · rw [gR_sR, if_neg (by omega)]
    exact h.1.2.2.2 hb
  · rw [gR_sR] at hj
    split at hj
    · have := Option.some.inj hj
      omega
    · have := h.2.1 a c j hj
      omega
  · rw [gR_sR] at hj
    split at hj
    · have := Option.some.inj hj
      omega
    · exact h.2.2.1 a c hj
  · rw [gR_sR] at hj
    split at hj
    · have := Option.some.inj hj
      omega
    · exact h.2.2.2 a c hj
theorem SHF_b {b : Nat} (h1 : 214 ≤ b) (h2 : b < 300) : SHF b = some (0, 3) := by
  unfold SHF
  rw [if_neg (by omega), if_neg (by omega), if_neg (by omega), if_neg (by omega), if_neg (by omega)]
theorem ln_RL_195 : Gd (.methodLink RL 195 yX13_next) := gd 809 (by decide +kernel) rfl
def f_L_rules_L21 (sh : Nat → Option SE) (Z : Nat) (LX : Nat) (xs : Nat → Int32) (p3 : Int32) (w9 : Nat) (c : Nat) (k : Mem → Option (Unit × Mem)) : Nat → Int32 → Mem → Option (Unit × Mem)
  | 0, _, _ => none
  | n + 1, x4, M5 => rdI M5 111 6 p3 (fun v6 => (if v6 ≤ (x4 + (1 : Int32)) then k M5 else rdI M5 w9 3 x4 (fun v7 => (if c + 0 ≤ 30 then cl (f_X13_next LX xs M5 (0 : Int32) v7) (fun v8 M9 => wrI M9 w9 3 (x4 + (1 : Int32)) v8 (fun M11 => rdI M11 w9 3 x4 (fun v12 => rdI M11 w9 3 (x4 + (1 : Int32)) (fun v13 => wrI M11 w9 3 x4 (v12 - v13) (fun M14 => f_L_rules_L21 sh Z LX xs p3 w9 c k n (x4 + (1 : Int32)) M14))))) else none))))
noncomputable def f_L_rules_b (sh : Nat → Option SE) (Z : Nat) (LX : Nat) (xs : Nat → Int32) (p3 : Int32) (w9 : Nat) (kx : Mem → Nat → Option (Unit × Mem)) (M : Mem) (c : Nat) : Option (Unit × Mem) :=
  wrI M w9 3 (0 : Int32) (10 : Int32) (fun M1 => wrI M1 w9 3 (1 : Int32) (0 : Int32) (fun M2 => wrI M2 w9 3 (2 : Int32) (0 : Int32) (fun M3 => f_L_rules_L21 sh Z LX xs p3 w9 c (fun (M15 : Mem) => kx M15 c) Z (0 : Int32) M3)))
set_option maxRecDepth 100000 in
theorem l_L_rules_L21 {Γ : WC} {X : MX} {sh : Nat → Option SE} (hL : HLa Γ sh) {b : Nat} {LX : Nat} {xs : Nat → Int32} (hX : HX Γ b LX xs) (C : CX Γ X cL_rules 6 RL (some .boolean) (rmL 50 30 (6 * 30))) {rM : Unit × Mem} (E : True) {Z : Nat} {p3 : Int32} {w9 : Nat} {c : Nat} (h_w9 : On Γ w9 (0, 3)) {k : Mem → Option (Unit × Mem)} (hk : ∀  (Mx : Mem), k Mx = some rM → G Γ X Mx c (6 * c) [some (.ref (wad Γ 0)), some (.ref (wad Γ 109)), none, some (.int p3), some (.ref (wad Γ w9))] [] 72) : ∀ (n : Nat) (x4 : Int32) (M5 : Mem), f_L_rules_L21 sh Z LX xs p3 w9 c k n x4 M5 = some rM → G Γ X M5 c (6 * c) [some (.ref (wad Γ 0)), some (.ref (wad Γ 109)), some (.ref (wad Γ 108)), some (.int p3), some (.ref (wad Γ w9)), some (.int x4)] [] 21 := by
  intro n
  induction n with
  | zero =>
    intro x4 M5 hf
    have hf0 : (none : Option _) = some rM := hf
    cases hf0
  | succ n ih =>
    intro x4 M5 hf
    rw [f_L_rules_L21] at hf
    refine x_iload C rfl (dkAt dk_L_rules 17 rfl) 23 rfl ?_
    refine x_iconst C (v := (1 : Int32)) (by decide) (dkAt dk_L_rules 18 rfl) 24 rfl ?_
    refine x_iadd C (dkAt dk_L_rules 19 rfl) 25 rfl ?_
    refine x_aload_n C rfl rfl (dkAt dk_L_rules 20 rfl) 26 rfl ?_
    refine x_getSn C nlk_RL_161 (hL.2.1 109 (18, 17) rfl) (hL.2.2.2 109 7 111 rfl) (dkAt dk_L_rules 21 rfl) 29 rfl ?_
    refine x_iload_n C rfl rfl (dkAt dk_L_rules 22 rfl) 30 rfl ?_
    refine x_iald C (hL.2.1 111 (0, 6) rfl) (dkAt dk_L_rules 23 rfl) 31 rfl hf (fun v6 hf => ?_)
    refine x_icmp_ge C 72 (dkAt dk_L_rules 24 rfl) 34 rfl (by decide) hf (fun hf => ?_) (fun hf => ?_)
    · exact G.weak (L := [some (.ref (wad Γ 0)), some (.ref (wad Γ 109)), none, some (.int p3), some (.ref (wad Γ w9))]) ⟨rfl, rfl, rfl, rfl, trivial⟩ (hk _ hf)
    · refine x_aload C rfl (dkAt dk_L_rules 25 rfl) 36 rfl ?_
      refine x_iload C rfl (dkAt dk_L_rules 26 rfl) 38 rfl ?_
      refine x_iconst C (v := (1 : Int32)) (by decide) (dkAt dk_L_rules 27 rfl) 39 rfl ?_
      refine x_iadd C (dkAt dk_L_rules 28 rfl) 40 rfl ?_
      refine x_aload_n C rfl rfl (dkAt dk_L_rules 29 rfl) 41 rfl ?_
      refine x_iconst C (v := (0 : Int32)) (by decide) (dkAt dk_L_rules 30 rfl) 42 rfl ?_
      refine x_aload C rfl (dkAt dk_L_rules 31 rfl) 44 rfl ?_
      refine x_iload C rfl (dkAt dk_L_rules 32 rfl) 46 rfl ?_
      refine x_iald C h_w9 (dkAt dk_L_rules 33 rfl) 47 rfl hf (fun v7 hf => ?_)
      obtain ⟨hc, hf⟩ := if_some hf
      obtain ⟨v8, M9, h10, hf⟩ := cl_inv hf
      refine x_cVi C (c_X13_next hL hX h10) mw_X13_next ln_RL_195 mi_X13_next (show RC _ 108 RX13 from ⟨13, 2, _, (hL.2.1 108 (19, 2) rfl), rc13, rfl⟩) (ro_c (k := 0) (by decide) (by decide) hc (Nat.zero_le _)) rfl rfl (Nat.le_of_ble_eq_true rfl) (dkAt dk_L_rules 34 rfl) 50 rfl _ _ rfl rfl ?_
      change G Γ X M9 c (6 * c) [some (.ref (wad Γ 0)), some (.ref (wad Γ 109)), some (.ref (wad Γ 108)), some (.int p3), some (.ref (wad Γ w9)), some (.int x4)] [.int v8, .int (x4 + (1 : Int32)), .ref (wad Γ w9)] 50
      refine x_iast C h_w9 (dkAt dk_L_rules 35 rfl) 51 rfl hf (fun M11 hf => ?_)
      refine x_aload C rfl (dkAt dk_L_rules 36 rfl) 53 rfl ?_
      refine x_iload C rfl (dkAt dk_L_rules 37 rfl) 55 rfl ?_
      refine x_dup2 C rfl rfl (dkAt dk_L_rules 38 rfl) 56 rfl ?_
      refine x_iald C h_w9 (dkAt dk_L_rules 39 rfl) 57 rfl hf (fun v12 hf => ?_)
      refine x_aload C rfl (dkAt dk_L_rules 40 rfl) 59 rfl ?_
      refine x_iload C rfl (dkAt dk_L_rules 41 rfl) 61 rfl ?_
      refine x_iconst C (v := (1 : Int32)) (by decide) (dkAt dk_L_rules 42 rfl) 62 rfl ?_
      refine x_iadd C (dkAt dk_L_rules 43 rfl) 63 rfl ?_
      refine x_iald C h_w9 (dkAt dk_L_rules 44 rfl) 64 rfl hf (fun v13 hf => ?_)
      refine x_isub C (dkAt dk_L_rules 45 rfl) 65 rfl ?_
      refine x_iast C h_w9 (dkAt dk_L_rules 46 rfl) 66 rfl hf (fun M14 hf => ?_)
      refine x_iinc C (v := (x4 + (1 : Int32))) (L1 := [some (.ref (wad Γ 0)), some (.ref (wad Γ 109)), some (.ref (wad Γ 108)), some (.int p3), some (.ref (wad Γ w9)), some (.int (x4 + (1 : Int32)))]) (dkAt dk_L_rules 47 rfl) 69 rfl rfl rfl (by decide) rfl ?_
      refine x_goto C 21 (dkAt dk_L_rules 48 rfl) (by decide) ?_
      exact G.weak (L := [some (.ref (wad Γ 0)), some (.ref (wad Γ 109)), some (.ref (wad Γ 108)), some (.int p3), some (.ref (wad Γ w9)), some (.int (x4 + (1 : Int32)))]) ⟨rfl, rfl, rfl, rfl, rfl, rfl, trivial⟩ (ih _ _ hf)
set_option maxRecDepth 100000 in
theorem s_L_rules_b {Γ : WC} {X : MX} {sh : Nat → Option SE} (hL : HLa Γ sh) {b : Nat} {LX : Nat} {xs : Nat → Int32} (hX : HX Γ b LX xs) (C : CX Γ X cL_rules 6 RL (some .boolean) (rmL 50 30 (6 * 30))) {rM : Unit × Mem} (E : True) {Z : Nat} {p3 : Int32} {w9 : Nat} (h_w9 : On Γ w9 (0, 3)) {kx : Mem → Nat → Option (Unit × Mem)} (hkx : ∀ (Mx : Mem) (cx : Nat), kx Mx cx = some rM → G Γ X Mx cx (6 * cx) [some (.ref (wad Γ 0)), some (.ref (wad Γ 109)), none, some (.int p3), some (.ref (wad Γ w9))] [] 72) {M : Mem} {c : Nat} (hf : f_L_rules_b sh Z LX xs p3 w9 kx M c = some rM) : G Γ X M c (6 * c) [some (.ref (wad Γ 0)), some (.ref (wad Γ 109)), some (.ref (wad Γ 108)), some (.int p3)] [.ref (wad Γ w9)] 3 := by
  unfold f_L_rules_b at hf
  refine x_dup C rfl (dkAt dk_L_rules 2 rfl) 4 rfl ?_
  refine x_iconst C (v := (0 : Int32)) (by decide) (dkAt dk_L_rules 3 rfl) 5 rfl ?_
  refine x_bipush C (v := (10 : Int32)) (by decide) (dkAt dk_L_rules 4 rfl) 7 rfl ?_
  refine x_iast C h_w9 (dkAt dk_L_rules 5 rfl) 8 rfl hf (fun M1 hf => ?_)
  refine x_dup C rfl (dkAt dk_L_rules 6 rfl) 9 rfl ?_
  refine x_iconst C (v := (1 : Int32)) (by decide) (dkAt dk_L_rules 7 rfl) 10 rfl ?_
  refine x_iconst C (v := (0 : Int32)) (by decide) (dkAt dk_L_rules 8 rfl) 11 rfl ?_
  refine x_iast C h_w9 (dkAt dk_L_rules 9 rfl) 12 rfl hf (fun M2 hf => ?_)
  refine x_dup C rfl (dkAt dk_L_rules 10 rfl) 13 rfl ?_
  refine x_iconst C (v := (2 : Int32)) (by decide) (dkAt dk_L_rules 11 rfl) 14 rfl ?_
  refine x_iconst C (v := (0 : Int32)) (by decide) (dkAt dk_L_rules 12 rfl) 15 rfl ?_
  refine x_iast C h_w9 (dkAt dk_L_rules 13 rfl) 16 rfl hf (fun M3 hf => ?_)
  refine x_astore C (L1 := [some (.ref (wad Γ 0)), some (.ref (wad Γ 109)), some (.ref (wad Γ 108)), some (.int p3), some (.ref (wad Γ w9))]) (dkAt dk_L_rules 14 rfl) 18 rfl (by decide) rfl ?_
  refine x_iconst C (v := (0 : Int32)) (by decide) (dkAt dk_L_rules 15 rfl) 19 rfl ?_
  refine x_istore C (L1 := [some (.ref (wad Γ 0)), some (.ref (wad Γ 109)), some (.ref (wad Γ 108)), some (.int p3), some (.ref (wad Γ w9)), some (.int (0 : Int32))]) (dkAt dk_L_rules 16 rfl) 21 rfl (by decide) rfl ?_
  refine G.weak (L := [some (.ref (wad Γ 0)), some (.ref (wad Γ 109)), some (.ref (wad Γ 108)), some (.int p3), some (.ref (wad Γ w9)), some (.int (0 : Int32))]) ⟨rfl, rfl, rfl, rfl, rfl, rfl, trivial⟩ ?_
  refine l_L_rules_L21 hL hX C E h_w9 ?_ Z _ _ hf
  intro M15 hf
  exact G.weak (L := [some (.ref (wad Γ 0)), some (.ref (wad Γ 109)), none, some (.int p3), some (.ref (wad Γ w9))]) ⟨rfl, rfl, rfl, rfl, trivial⟩ (hkx _ _ hf)
noncomputable def f_L_rules_c (sh : Nat → Option SE) (Z : Nat) (p3 : Int32) (w9 : Nat) (kr : Mem → Option (Unit × Mem)) (M : Mem) (c : Nat) : Option (Unit × Mem) :=
  rdI M w9 3 (0 : Int32) (fun v1 => rdI M w9 3 (1 : Int32) (fun v2 => rdI M w9 3 (2 : Int32) (fun v3 => (if c + 6 ≤ 30 then clT (f_X11_setRule Z M p3 v1 v2 v3) (fun v4 M5 => (if (c + 6) + 1 ≤ 30 then clT (f_X11_broken Z M5) (fun v6 M7 => (if v4 = v6 then (if ((c + 6) + 1) ≤ 30 then kr M7 else none) else none)) (fun _ _ => none) else none)) (fun _ _ => none) else none))))
set_option maxRecDepth 100000 in
theorem s_L_rules_c {Γ : WC} {X : MX} {sh : Nat → Option SE} (hN : HN Γ) (hC : NC Γ) (hF : HF Γ) (hL : HLa Γ sh) (C : CX Γ X cL_rules 6 RL (some .boolean) (rmL 50 30 (6 * 30))) {rM : Unit × Mem} (E : True) {Z : Nat} {p3 : Int32} {w9 : Nat} (h_w9 : On Γ w9 (0, 3)) {kr : Mem → Option (Unit × Mem)} (hend : ∀ (pc : Nat) (Mx : Mem) (cx : Nat) (Lx : List (Option Value)), decode cL_rules pc = .ok (.ireturn, 1) → cx ≤ 30 → kr Mx = some rM → G Γ X Mx cx (6 * cx) Lx [.int (1 : Int32)] pc) {M : Mem} {c : Nat} (hf : f_L_rules_c sh Z p3 w9 kr M c = some rM) : G Γ X M c (6 * c) [some (.ref (wad Γ 0)), some (.ref (wad Γ 109)), none, some (.int p3), some (.ref (wad Γ w9))] [] 80 := by
  unfold f_L_rules_c at hf
  refine x_aload_n C rfl rfl (dkAt dk_L_rules 54 rfl) 81 rfl ?_
  refine x_iload_n C rfl rfl (dkAt dk_L_rules 55 rfl) 82 rfl ?_
  refine x_aload C rfl (dkAt dk_L_rules 56 rfl) 84 rfl ?_
  refine x_iconst C (v := (0 : Int32)) (by decide) (dkAt dk_L_rules 57 rfl) 85 rfl ?_
  refine x_iald C h_w9 (dkAt dk_L_rules 58 rfl) 86 rfl hf (fun v1 hf => ?_)
  refine x_aload C rfl (dkAt dk_L_rules 59 rfl) 88 rfl ?_
  refine x_iconst C (v := (1 : Int32)) (by decide) (dkAt dk_L_rules 60 rfl) 89 rfl ?_
  refine x_iald C h_w9 (dkAt dk_L_rules 61 rfl) 90 rfl hf (fun v2 hf => ?_)
  refine x_aload C rfl (dkAt dk_L_rules 62 rfl) 92 rfl ?_
  refine x_iconst C (v := (2 : Int32)) (by decide) (dkAt dk_L_rules 63 rfl) 93 rfl ?_
  refine x_iald C h_w9 (dkAt dk_L_rules 64 rfl) 94 rfl hf (fun v3 hf => ?_)
  obtain ⟨hc, hf⟩ := if_some hf
  refine h_cVi C hf (fun r hr => c_X11_setRule hN hr) mw_X11_setRule ln_RL_89 mi_X11_setRule (hN.rc (ci := 11) sh0 rc11) (ro_c (k := 6) (by decide) (by decide) hc (by decide)) rfl rfl (Nat.le_of_ble_eq_true rfl) (dkAt dk_L_rules 65 rfl) 97 rfl (c + 6) (6 * (c + 6)) rfl (by show 6 * c + 36 = _; omega) (fun v4 M5 hf => ?_) (fun _ _ h => nomatch h)
  refine x_aload_n C rfl rfl (dkAt dk_L_rules 66 rfl) 98 rfl ?_
  obtain ⟨hc, hf⟩ := if_some hf
  refine h_cVi C hf (fun r hr => c_X11_broken hN hr) mw_X11_broken ln_RL_200 mi_X11_broken (hN.rc (ci := 11) sh0 rc11) (ro_c (k := 1) (by decide) (by decide) hc (by decide)) rfl rfl (Nat.le_of_ble_eq_true rfl) (dkAt dk_L_rules 67 rfl) 101 rfl ((c + 6) + 1) (6 * ((c + 6) + 1)) rfl (by show 6 * (c + 6) + 6 = _; omega) (fun v6 M7 hf => ?_) (fun _ _ h => nomatch h)
  refine x_icmp_ne C 108 (dkAt dk_L_rules 68 rfl) 104 rfl (by decide) hf (fun hf => ?_) (fun hf => ?_)
  · refine x_iconst C (v := (0 : Int32)) (by decide) (dkAt dk_L_rules 71 rfl) 109 rfl ?_
    exact nomatch hf
  · refine x_iconst C (v := (1 : Int32)) (by decide) (dkAt dk_L_rules 69 rfl) 105 rfl ?_
    refine x_goto C 109 (dkAt dk_L_rules 70 rfl) (by decide) ?_
    obtain ⟨hc9, hf⟩ := if_some hf
    exact hend _ _ _ _ (dkAt dk_L_rules 72 rfl) hc9 hf
noncomputable def f_L_rules (b Z LX : Nat) (xs : Nat → Int32) (M : Mem) (p3 : Int32) : Option (Unit × Mem) := @ite _ (zeroM b M ∧ 214 ≤ b ∧ b < 300) (Classical.propDecidable _) (f_L_rules_b (shB b) Z LX xs p3 b (fun M1 c1 => if inB p3 6 = true ∧ c1 + 0 ≤ 20 then f_L_rules_c (shB (b + 1)) Z p3 b (fun M2 => some ((), M2)) (sR M1 119 p3.toNatClampNeg (some b)) c1 else none) M 1) none
set_option maxRecDepth 100000 in
theorem c_L_rules {Γ : WC} (hT : HT Γ) (hQ : HQ Γ) (hC : NC Γ) {b9 LX : Nat} {xs : Nat → Int32} (hX : HX0 Γ b9 LX xs) {b Z : Nat} {M : Mem} {p3 : Int32} {rM : Unit × Mem} (hf : f_L_rules b Z LX xs M p3 = some rM) : CtX Γ b9 (KB b) (KB (b + 1)) yL_rules cL_rules 6 (some .boolean) (rmL 50 30 (6 * 30)) (lB b) (lB (b + 1)) [.inr 0, .inr 109, .inr 108, .inl (.int p3)] M (some (.inl (.int 1))) rM.2 := by
  refine mkX hT.1 (own := RL) rfl (by decide) (fun _ => Nat.le_of_ble_eq_true rfl) (fun ad X hb C _ E => ?_)
  obtain ⟨⟨hz9, hb1, hb2⟩, hf⟩ := if_some hf
  have C0 := C.gc (krB b) ad (lB b)
  have hbn : b ∉ lB b := fun z => absurd ((lB_iff (by omega)).mp z) (by omega)
  change G (gc Γ (KB b) ad (lB b)) X M 0 0 [some (.ref (ad 0)), some (.ref (ad 109)), some (.ref (ad 108)), some (.int p3)] [] 0
  refine x_iconst C0 (v := (3 : Int32)) (by decide) (dkAt dk_L_rules 0 rfl) 1 rfl ?_
  refine d_newt (n := b) (k := 0) (N := 3) (ty := .int) C (SHF_b hb1 hb2) (by decide) rfl ka_int rfl (fun _ => rfl) ⟨by decide, by decide, by decide⟩ (fun hKM => ⟨⟨hbn, by omega⟩, hz9, fun o ho i z => by have := hKM.2.1 o i _ z; omega⟩) ⟨by decide, by decide⟩ (dkAt dk_L_rules 1 rfl) 3 rfl rfl rfl (fun p9 => ?_)
  have hnd2 : (lB b ++ [b]).Nodup := l3_nd (lB_nd b) hbn
  refine G.wide (cs1 := 1) (sl1 := 6 * 1) (by decide) (by decide) ?_
  have e0 : adu ad b p9 0 = ad 0 := adu_ne (by omega)
  have e109 : adu ad b p9 109 = ad 109 := adu_ne (by omega)
  have e108 : adu ad b p9 108 = ad 108 := adu_ne (by omega)
  have en : adu ad b p9 b = p9 := adu_n
  have e999 : adu ad b p9 999 = b9 := (adu_ne (by omega)).trans hb
  have hag : agr (lB b) ad (adu ad b p9) := adu_agr ⟨hbn, by omega⟩
  generalize adu ad b p9 = ad2 at *
  rw [← e0, ← e109, ← e108, ← en]
  have C2 := C.gc (krB b) ad2 (lB b ++ [b])
  have onw : On (gc Γ (KB b) ad2 (lB b ++ [b])) b (0, 3) := og hnd2 (List.mem_append_right _ (List.mem_singleton.mpr rfl)) (SHF_b hb1 hb2)
  have hL2 : HLa (gc Γ (KB b) ad2 (lB b ++ [b])) (shB b) := (hL4 hT (by omega) ad).ext hnd2
  refine s_L_rules_b hL2 (hXV hX e999) C2 trivial onw (fun M1 c1 hf => ?_) hf
  obtain ⟨⟨hi, hc⟩, hf⟩ := if_some hf
  change G (gc Γ (KB b) ad2 (lB b ++ [b])) X M1 c1 (6 * c1) [some (.ref (ad2 0)), some (.ref (ad2 109)), none, some (.int p3), some (.ref (ad2 b))] [] 72
  refine x_aload_n C2 rfl rfl (dkAt dk_L_rules 49 rfl) 73 rfl ?_
  refine x_getSn C2 nlk_RL_170 (hL2.2.1 109 (18, 17) rfl) (hL2.2.2.2 109 9 119 rfl) (dkAt dk_L_rules 50 rfl) 76 rfl ?_
  refine x_iload_n C2 rfl rfl (dkAt dk_L_rules 51 rfl) 77 rfl ?_
  refine x_aload C2 rfl (dkAt dk_L_rules 52 rfl) 79 rfl ?_
  refine GK (fun hKM => ?_)
  refine G.K (K1 := KT) trivial ?_
  have C3 := C.gc KR.tt ad2 (lB b ++ [b])
  refine x_aastW (o := 119) (v := b) (n := 6) (nv := 3) C3 hQ (by decide) (fun _ _ => trivial) (og hnd2 (List.mem_append_left _ ((lB_iff (by omega)).mpr (by omega))) rfl) (og hnd2 (List.mem_append_right _ (List.mem_singleton.mpr rfl)) (SHF_b hb1 hb2)) hi (dkAt dk_L_rules 53 rfl) 80 rfl ?_
  refine G.K (K1 := KB (b + 1)) (KB.weight hb1 hb2 hKM) ?_
  rw [lB_1 (by omega)]
  have C4 := C.gc (krB (b + 1)) ad2 (lB (b + 1))
  refine s_L_rules_c (hN4 hT (by omega) (by omega) ad2) hC (hF4 (by omega) (by omega) ad2) (hL4 hT (by omega) ad2) C4 trivial (w9 := b) (ob (by omega) (by omega) (SHF_b hb1 hb2)) (fun pc Mx cx Lx d hc9 hf => ?_) hf
  cases hf
  exact d_iret C E hag rfl (fun h => h) hc9 (Nat.mul_le_mul_left _ hc9) d
