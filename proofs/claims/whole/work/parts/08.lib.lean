section Thr2
variable {Γ : WC} {X : MX} {M M1 : Mem} {cs sl mc ms : Nat} {L : List (Option Value)} {st : List Value} {pc : Nat} {cc : ByteArray} {nL : Nat} {own : String} {ret : Option FieldType} {R0 : Room} {β : Type}
/-- 'throw new E("text")' -/
theorem t_throwW {α : Type} {tv : α → Option Value} {rM : Except Nat α × Mem} {n9 : Nat} (C : CX Γ X cc nL own ret R0) (E : EndT Γ X tv rM mc ms) {text : String} {ik is ic sa : Nat} (hf : some (.error n9, M) = some rM) (hc : cs + 1 ≤ mc) (hs : sl + 6 ≤ ms) (hR : 6 ≤ R0.frames ∧ 90 ≤ R0.locals ∧ mc ≤ R0.cells ∧ ms ≤ R0.slots) (hw : (st.map fun v => v.category).sum ≤ 8)
    (hcls : Bundle.fit (xN n9) = true) (hk : Gd (.classLink own ik (xN n9))) (hini : Gd (.initialized (xN n9))) (hstr : vk_R own is text sa (wU Γ)) (hat : ∀ w ∈ vx_atS own ic (xN n9) ["java/lang/RuntimeException", "java/lang/Exception"], Gd w) (hgd : ∀ w ∈ Cond.classLink own ik (xN n9) :: Cond.initialized (xN n9) :: vx_atS own ic (xN n9) ["java/lang/RuntimeException", "java/lang/Exception"], vx_ot w = true)
    (d0 : decode cc pc = .ok (.new ik, 3)) (d3 : decode cc (pc + 3) = .ok (.dup, 1)) (d4 : decode cc (pc + 4) = .ok (.ldc_w is, 3)) (d6 : decode cc (pc + 7) = .ok (.invokespecial ic, 3)) (d9 : decode cc (pc + 10) = .ok (.athrow, 1)) : G Γ X M cs sl L st pc := by
  obtain ⟨p, e, R, s, m, args, below, meth, c, Q⟩ := X
  obtain ⟨hx, hb, hml, hown, hts, hW, hlk, hret, rfl, hK, hSs, hG⟩ := C
  cases hf
  intro H locs ls a1 a2 a3 a4 a5
  rw [show Q = _ from E.1]
  have hno := E.2
  intro T hT X9
  have hsz : s.heap.size ≤ H.size := by
    have h2 := X9.same.2.1
    rw [← hT]
    exact h2
  have hS9 : va_S (fAg Γ) s.heap H locs := ⟨hsz, fun q h1 h2 => by
    have hq : q < (wU Γ).heap.size := Nat.lt_of_not_le h2
    rw [a4.2.1 q hq h2, hSs.2.1 q hq h2], a4.2.2⟩
  have hU := (hG.2.2.2.1.kept hSs.2.1).moved hW.alike
  have hN := (hG.2.2.2.2.1.kept hSs.2.1).moved hW.alike
  exact vx_throwSW hx hb hG.2.2.1 hown hcls (by decide) (hts _ hk) (hts _ hini) (vk_R.warm hW hstr) (fun w h => hts w (hat w h)) hgd hU hN hS9 (by rw [a5.1]) d0 d3 d4 d6 d9 (fun x h => absurd (hno x h) id) (by show 2 + 3 < _; omega) (by show _ + (13 * (2 + 1) + 43) ≤ _; omega) (by omega) (by omega) hlk
    (fun t hv h1 h2 => ⟨_, rfl, rfl, a1, ⟨Nat.le_trans a4.1 h1, fun q h3 h4 => by rw [h2 q (Nat.lt_of_lt_of_le h3 a4.1)]; exact a4.2.1 q h3 h4, fun _ z => nomatch z⟩, a2.kept (fun k q hk => h2 q.1 (a2 k q hk).lt), a3⟩) a4.2.2 hc hs T hT X9
end Thr2
theorem x_join {τ β : Type} {R : τ → Option β} {B : (τ → Option β) → Option β} {rM : β} {P : Prop} (hf : jn R B = some rM) (S : τ → Prop) (h1 : ∀ t, R t = some rM → S t) (h2 : ∀ j : τ → Option β, (∀ t, j t = some rM → S t) → B j = some rM → P) : P := h2 R h1 hf
section Lib1
variable {Γ : WC} {X : MX} {M : Mem} {cs sl : Nat} {L : List (Option Value)} {st : List Value} {pc : Nat} {cc : ByteArray} {nL : Nat} {own : String} {ret : Option FieldType} {R0 : Room} {β : Type} {rM : β} {idx : Nat}
theorem ll_maxI : Gd (.static Lib.Math.max.name) ∧ Gd (.initialized "java/lang/Math") ∧ Gd (.code Lib.Math.max.name Lib.Math.max.code 2 (some .int)) := sorry
theorem x_maxI (C : CX Γ X cc nL own ret R0) {x y : Int32} {k : Int32 → Option β} (ln : Gd (.methodLink own idx yJ9_max_7cf53)) (hr : 2 ≤ R0.frames ∧ 60 ≤ R0.locals) (hw : (st.map fun v => v.category).sum ≤ 8) (d : decode cc pc = .ok (.invokestatic idx, 3)) (q : Nat) (hq : pc + 3 = q) (hf : bd (if x < y then y else x) k = some rM) (K : ∀ v, k v = some rM → G Γ X M cs sl L (.int v :: st) q) : G Γ X M cs sl L (.int y :: .int x :: st) pc := sorry
theorem x_minI (C : CX Γ X cc nL own ret R0) {x y : Int32} {k : Int32 → Option β} (ln : Gd (.methodLink own idx yJ9_min_7cf53)) (hr : 2 ≤ R0.frames ∧ 60 ≤ R0.locals) (hw : (st.map fun v => v.category).sum ≤ 8) (d : decode cc pc = .ok (.invokestatic idx, 3)) (q : Nat) (hq : pc + 3 = q) (hf : bd (if y < x then y else x) k = some rM) (K : ∀ v, k v = some rM → G Γ X M cs sl L (.int v :: st) q) : G Γ X M cs sl L (.int y :: .int x :: st) pc := sorry
theorem x_maxL (C : CX Γ X cc nL own ret R0) {x y : Int64} {k : Int64 → Option β} (ln : Gd (.methodLink own idx yJ9_max_f86c9)) (hr : 2 ≤ R0.frames ∧ 60 ≤ R0.locals) (hw : (st.map fun v => v.category).sum ≤ 8) (d : decode cc pc = .ok (.invokestatic idx, 3)) (q : Nat) (hq : pc + 3 = q) (hf : bd (if y < x then x else y) k = some rM) (K : ∀ v, k v = some rM → G Γ X M cs sl L (.long v :: st) q) : G Γ X M cs sl L (.long y :: .long x :: st) pc := sorry
theorem x_fdivK (C : CX Γ X cc nL own ret R0) {x y : UInt32} {a : Option β} (d : decode cc pc = .ok (.fdiv, 1)) (q : Nat) (hq : pc + 1 = q) (hf : okF (FP.fdiv x y) a = some rM) (K : a = some rM → G Γ X M cs sl L (.float (FP.fdiv x y) :: st) q) : G Γ X M cs sl L (.float y :: .float x :: st) pc := by
  obtain ⟨h1, h2⟩ := if_some hf
  exact x_fdiv C h1 d q hq (K h2)
theorem x_slen (C : CX Γ X cc nL own ret R0) {t : Nat} (ht : t < 10) (ln : Gd (.methodLink own idx yJ0_length_8abf5)) (hr : 5 ≤ R0.frames ∧ 200 ≤ R0.locals) (hw : (st.map fun v => v.category).sum ≤ 8) (d : decode cc pc = .ok (.invokevirtual idx, 3)) (q : Nat) (hq : pc + 3 = q) (K : G Γ X M cs sl L (.int (slen t) :: st) q) : G Γ X M cs sl L (.ref (wst Γ t) :: st) pc := sorry
theorem x_charAt (C : CX Γ X cc nL own ret R0) {t : Nat} {i : Int32} {k : Int32 → Option β} (ht : t < 10) (ln : Gd (.methodLink own idx yJ0_charAt_5068e)) (hr : 7 ≤ R0.frames ∧ 260 ≤ R0.locals) (hw : (st.map fun v => v.category).sum ≤ 8) (d : decode cc pc = .ok (.invokevirtual idx, 3)) (q : Nat) (hq : pc + 3 = q) (hf : rdS t i k = some rM) (K : ∀ v, k v = some rM → G Γ X M cs sl L (.int v :: st) q) : G Γ X M cs sl L (.int i :: .ref (wst Γ t) :: st) pc := sorry
theorem x_copy (C : CX Γ X cc nL own ret R0) {a na b nb : Nat} {sp dp n : Int32} {k : Mem → Option β} (ha : (wsh Γ)[a]? = some (0, na)) (hb9 : (wsh Γ)[b]? = some (0, nb)) (ln : Gd (.methodLink own idx arraycopyName)) (hr : 2 ≤ R0.frames ∧ 60 ≤ R0.locals) (hw : (st.map fun v => v.category).sum ≤ 8) (d : decode cc pc = .ok (.invokestatic idx, 3)) (q : Nat) (hq : pc + 3 = q) (hf : cpI M a na sp b nb dp n k = some rM) (K : ∀ M1, k M1 = some rM → G Γ X M1 cs sl L st q) : G Γ X M cs sl L (.int n :: .int dp :: .ref (wad Γ b) :: .int sp :: .ref (wad Γ a) :: st) pc := sorry
theorem x_ldcS (C : CX Γ X cc nL own ret R0) {t : Nat} {tx : String} (hs : vk_R own idx tx (wst Γ t) (wU Γ)) (d : decode cc pc = .ok (.ldc idx, 2)) (q : Nat) (hq : pc + 2 = q) (K : G Γ X M cs sl L (.ref (wst Γ t) :: st) q) : G Γ X M cs sl L st pc := by
  subst hq
  obtain ⟨p, e, R, s, m, args, below, meth, c, Q⟩ := X
  obtain ⟨hx, hb, hml, hown, hts, hW, hlk, hret, hR, hK, hSs, hG⟩ := C
  intro H locs ls a1 a2 a3 a4 a5
  exact va_ldcS hx hb hown (vk_R.warm hW hs) d (K H locs ls a1 a2 a3 a4 a5)
end Lib1
