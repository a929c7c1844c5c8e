/-! a row stored into a row of rows -/
section AstA
variable {p : Program} {l : Launch} {e : Env} {R : Room} {s : State} {m : MethodId} {args : Array Value} {below : List Frame} {meth : Method} {c : Code} {H : Heap} {locs : List Loc} {cells slots : Nat} {Q : State → Prop}
variable {cc : ByteArray} {pc : Nat} {ls : Array Slot} {rest : List Value} {D : va_G} {cl : List vw_C} {A : Nat → Prop} {a : Nat} {ws : va_W} {H0 : Heap}
theorem mz_astA (hexec : p.tables.exec = Jvm.exec) (hb : c.code = cc) (hP : va_P D cl ws H) (hD : va_D A ws) (hS : va_S A H0 H locs) (q0 qk : Nat) {cA c1 : ClassId} {n v nv : Nat} {f : Nat → Option Nat} {g : Nat → Int32} (ha : ws[q0]? = some (a, .inl (cA, n, .inr (.inr (.inr (.inr f)))))) (hv : ws[qk]? = some (v, .inl (c1, nv, .inl g))) {kA k9 : Class} {t0 : FieldType} (k1 : s.vm.classes[cA]? = some kA) (k2 : kA.kind = .array c1 t0) (ht : t0.isReference = true) (hkC : s.vm.classes[c1]? = some k9) {i : Int32} (hin : vp_in i n) (hdg : decode cc pc = .ok (.aastore, 1))
    (kk : ∀ (H1 : Heap) (locs1 : List Loc), va_P D cl (ws.set q0 (a, .inl (cA, n, .inr (.inr (.inr (.inr (va_up f i.toNatClampNeg (some v)))))))) H1 → va_D A (ws.set q0 (a, .inl (cA, n, .inr (.inr (.inr (.inr (va_up f i.toNatClampNeg (some v)))))))) → va_S A H0 H1 locs1 → W p l e R s m args below meth c H1 locs1 cells slots Q (F0 m (pc + 1) ls rest)) : W p l e R s m args below meth c H locs cells slots Q (F0 m pc ls (.ref v :: .int i :: .ref a :: rest)) := by
  have hlt : i.toNatClampNeg < n := Nat.not_le.mp fun q => hin (Or.inr q)
  have h0 : ¬ i < 0 := fun q => hin (Or.inl q)
  refine W.aast hexec hb (hP q0 _ ha) (fun q h => by cases h) (fun h => by cases h) k1 k2 ht hkC ⟨h0, by show _ < (arrV _ _ _).slots.size; rw [arrV_size]; exact hlt⟩ (hP qk _ hv) (fun q h => by cases h) hkC (va_asg _ _) rfl rfl hdg fun H1 e z oq => ?_
  refine kk H1 _ (hP.set hD ha ?_ oq) (hD.set ha) (hS.put z oq (hD.2 q0 _ ha))
  show H1[a]? = some (vp_cell _ _)
  rw [e]
  rw [vp_cell_q, vp_cell_q, arrV_store]
  congr 2
  funext q
  by_cases hq : q = i.toNatClampNeg
  · subst hq
    simp [updV, va_up, va_rf]
  · simp [updV, va_up, hq]
end AstA
theorem x_aastW {Γ : WC} {X : MX} {M : Mem} {cs sl : Nat} {L : List (Option Value)} {st : List Value} {pc : Nat} {cc : ByteArray} {nL : Nat} {own : String} {ret : Option FieldType} {R0 : Room} (C : CX Γ X cc nL own ret R0) (hQ : HQ Γ) {o n v nv : Nat} {i : Int32} (hn : n < 1000) (hk : ∀ M, wK Γ M → wK Γ (sR M o i.toNatClampNeg (some v))) (hs : On Γ o (5, 1000 * 1 + n)) (hv : On Γ v (0, nv)) (hi : inB i n = true) (d : decode cc pc = .ok (.aastore, 1)) (q : Nat) (hq : pc + 1 = q) (K : G Γ X (sR M o i.toNatClampNeg (some v)) cs sl L st q) : G Γ X M cs sl L (.ref (wad Γ v) :: .int i :: .ref (wad Γ o) :: st) pc := by
  subst hq
  obtain ⟨p, e, R, s, m, args, below, meth, c, Q⟩ := X
  obtain ⟨hx, hb, hml, hown, hts, hW, hlk, hret, hR, hK, hSs, hG⟩ := C
  intro H locs ls a1 a2 a3 a4 a5
  obtain ⟨⟨⟨k6, z1, z2⟩, -⟩, -, -, ⟨k0, comp, z3, z4⟩, -⟩ := hQ
  obtain ⟨k6', w1, w2⟩ := hW.alike.2.2 _ _ z1
  obtain ⟨k0', w3, w4⟩ := hW.alike.2.2 _ _ z3
  have zc : ∀ (M : Mem), cE (wA Γ) (wad Γ) M o (5, 1000 * 1 + n) = .inl (wA Γ 6, n, .inr (.inr (.inr (.inr (fun j => (gR M o j).map (wad Γ)))))) := fun M => cE_q (dA := wA Γ) (ad := wad Γ) (M := M) (o := o) (k := 1) hn
  have hs1 : (wO Γ M)[px Γ o]? = some (wad Γ o, .inl (wA Γ 6, n, .inr (.inr (.inr (.inr (fun j => (gR M o j).map (wad Γ))))))) := by rw [wO_at hs, zc]
  have hv1 : (wO Γ M)[px Γ v]? = some (wad Γ v, .inl (wA Γ 0, nv, .inl (gI M v))) := wO_at hv
  refine mz_astA hx hb a2 a3 a4 (px Γ o) (px Γ v) hs1 hv1 w1 (by rw [w2]; exact z2) rfl w3 (inB_in hi) d (fun H1 locs1 hP1 hD1 hS1 => ?_)
  have e1 : (wO Γ M).set (px Γ o) (wad Γ o, cE (wA Γ) (wad Γ) (sR M o i.toNatClampNeg (some v)) o (5, 1000 * 1 + n)) = wO Γ (sR M o i.toNatClampNeg (some v)) := wO_set hs (fun a ha q => cE_sR ha q)
  have e2 : (fun j => (gR (sR M o i.toNatClampNeg (some v)) o j).map (wad Γ)) = va_up (fun j => (gR M o j).map (wad Γ)) i.toNatClampNeg (some (wad Γ v)) := by
    funext j
    simp only [gR_sR, va_up, true_and]
    split <;> rfl
  have e3 : cE (wA Γ) (wad Γ) (sR M o i.toNatClampNeg (some v)) o (5, 1000 * 1 + n) = (Sum.inl (wA Γ 6, n, Sum.inr (Sum.inr (Sum.inr (Sum.inr (va_up (fun j => (gR M o j).map (wad Γ)) i.toNatClampNeg (some (wad Γ v))))))) : va_E) := by
    rw [← e2, zc]
  rw [← e3, e1] at hP1 hD1
  exact K H1 locs1 ls (hk _ a1) hP1 hD1 hS1 a5
/-- new contents of the weights' row -/
theorem KB.weight {b : Nat} {M : Mem} {k : Nat} (hb : 214 ≤ b) (hb2 : b < 300) (h : KB b M) : KB (b + 1) (sR M 119 k (some b)) := by
  refine ⟨⟨fun a c j hj => ?_, fun a c j hj => ?_, ?_, fun _ => ?_⟩, fun a c j hj => ?_, ⟨fun a c hj => ?_, fun a c hj => ?_⟩⟩
  · rw [gR_sR, if_neg (fun z => ?_)]
    · exact h.1.1 a c j hj
    · rw [z.1] at hj
      have key : srT 119 c = none := by
        unfold srT
        rw [show srL.getD 119 [] = [] by decide +kernel]
        rfl
      rw [key] at hj
      exact nomatch hj
  · rw [gR_sR, if_neg (by have := srV_lo hj; omega)]
    exact h.1.2.1 a c j hj
  · rw [gR_sR, if_neg (by omega)]
    exact h.1.2.2.1
  · rw [gR_sR, if_neg (by omega)]
    exact h.1.2.2.2 hb
  · rw [gR_sR] at hj
    split at hj
    · have := Option.some.inj hj
      omega
    · have := h.2.1 a c j hj
      omega
  · rw [gR_sR] at hj
    split at hj
    · have := Option.some.inj hj
      omega
    · exact h.2.2.1 a c hj
  · rw [gR_sR] at hj
    split at hj
    · have := Option.some.inj hj
      omega
    · exact h.2.2.2 a c hj
