/-! the class's constructors: its objects are made behind the law's own -/
def KT : Mem → Prop := fun _ => True
def lL : List Nat := [108, 109, 210, 211] ++ List.range' 110 100
def lC (n : Nat) : List Nat := lL ++ List.range n
theorem lL_nodup : lL.Nodup := by decide +kernel
theorem lL_lo : ∀ o, o ∈ lL → 108 ≤ o := by decide +kernel
theorem lC_nodup {n : Nat} (hn : n ≤ 108) : (lC n).Nodup := List.nodup_append.mpr ⟨lL_nodup, List.nodup_range, fun a ha b hb e => by
  have h1 := lL_lo a ha
  have h2 := List.mem_range.mp hb
  omega⟩
theorem lC_mem {n o : Nat} (ho : o < n) : o ∈ lC n := List.mem_append_right _ (List.mem_range.mpr ho)
theorem lC_sub {n m : Nat} (h : n ≤ m) : ∀ o, o ∈ lC n → o ∈ lC m := fun o ho => (List.mem_append.mp ho).elim (fun z => List.mem_append_left _ z) (fun z => lC_mem (Nat.lt_of_lt_of_le (List.mem_range.mp z) h))
theorem lC_succ (n : Nat) : lC n ++ [n] = lC (n + 1) := by
  simp only [lC, List.range_succ, List.append_assoc]
theorem oc {Γ : WC} {K : Mem → Prop} {ad : Nat → Nat} {n o : Nat} {e : SE} (ho : o < n) (hn : n ≤ 108) (he : SHF o = some e) : On (gc Γ K ad (lC n)) o e := og (lC_nodup hn) (lC_mem ho) he
def svc (n : Nat) (v : SV) : Bool := match v with
  | .inl _ => true
  | .inr o => decide (o < n) && decide (o < 108)
theorem svc_ok {n : Nat} {v : SV} (h : svc n v = true) : svok (lC n) v := by
  cases v with
  | inl v => trivial
  | inr o =>
    simp only [svc, Bool.and_eq_true, decide_eq_true_eq] at h
    exact ⟨Or.inl (lC_mem h.1), by omega⟩
theorem svC {n : Nat} {L : List (Option SV)} (h : L.all (fun o => match o with
  | none => true
  | some v => svc n v) = true) : svL (lC n) L := fun v hv => svc_ok (List.all_eq_true.mp h (some v) hv)
theorem svD {n : Nat} {L : List SV} (h : L.all (svc n) = true) : svS (lC n) L := fun v hv => svc_ok (List.all_eq_true.mp h v hv)
/-- of the class's objects those from n on are not made yet -/
def Zc (n : Nat) (M : Mem) : Prop := (∀ o, n ≤ o → o < 108 → (∀ k, gI M o k = 0) ∧ (∀ k, gL M o k = 0) ∧ ∀ k, gR M o k = none) ∧ ∀ o k j, gR M o k = some j → j < n ∨ 108 ≤ j
theorem Zc.mono {n m : Nat} {M : Mem} (h : Zc n M) (hn : n ≤ m) : Zc m M := ⟨fun o ho => h.1 o (Nat.le_trans hn ho), fun o k j hj => (h.2 o k j hj).imp (fun z => Nat.lt_of_lt_of_le z hn) id⟩
theorem Zc.sI {n o k : Nat} {v : Int32} {M : Mem} (h : Zc n M) (ho : o < n) : Zc n (sI M o k v) := by
  refine ⟨fun a ha h8 => ⟨fun b => ?_, fun b => (h.1 a ha h8).2.1 b, fun b => (h.1 a ha h8).2.2 b⟩, fun a b j hj => h.2 a b j hj⟩
  rw [gI_sI, if_neg (fun z => by omega)]
  exact (h.1 a ha h8).1 b
theorem Zc.sR {n o k j : Nat} {M : Mem} (h : Zc n M) (ho : o < n) (hj : j < n) : Zc n (sR M o k (some j)) := by
  refine ⟨fun a ha h8 => ⟨fun b => (h.1 a ha h8).1 b, fun b => (h.1 a ha h8).2.1 b, fun b => ?_⟩, fun a b i hi => ?_⟩
  · rw [gR_sR, if_neg (fun z => by omega)]
    exact (h.1 a ha h8).2.2 b
  · rw [gR_sR] at hi
    split at hi
    · cases hi
      exact Or.inl hj
    · exact h.2 a b i hi
theorem Zc.nz {n : Nat} {M : Mem} (h : Zc n M) (hn : n < 108) : NZ n (lC n) M := by
  refine ⟨⟨fun z => ?_, by omega⟩, h.1 n (Nat.le_refl _) hn, fun o _ k z => ?_⟩
  · rcases List.mem_append.mp z with z | z
    · have := lL_lo n z
      omega
    · exact absurd (List.mem_range.mp z) (Nat.lt_irrefl n)
  · have := h.2 o k n z
    omega
section ConC
variable {Γ : WC} {K9 : Mem → Prop} {X : MX} {M M1 : Mem} {cs sl : Nat} {pc : Nat} {cc : ByteArray} {nL : Nat} {own : String} {ret : Option FieldType} {R0 : Room} {ad0 ad : Nat → Nat} {n0 n : Nat} {L : List (Option SV)} {st : List SV}
theorem d_newC {idx ci N cs1 sl1 : Nat} {Cn : String} {T : u_T} (C : CX Γ X cc nL own ret R0) (hn8 : n < 108) (hsh : SHF n = some (ci + 6, N)) (hc : vwCl[ci]? = some (Cn, T, N)) (hu : ∀ w ∈ u_ws Cn T N, Gd w) {ty : Nat → FieldType} (hty : ∀ k, k < N → parseFieldDescriptor (T k).2.2.1 = some (ty k)) (hdf : ∀ k, k < N → defaultValue (ty k) = zV (kFd ci k)) (hcl : Gd (.classLink own idx Cn)) (hin : Gd (.instantiable Cn N)) (hini : Gd (.initialized Cn)) (hz : Zc n M) (hR : cs + 1 ≤ R0.cells ∧ sl + N ≤ R0.slots) (hag : agr (lC n0) ad0 ad) (h0 : n0 ≤ n) {L1 : List (Option Value)} {st1 : List Value} (hL1 : L1 = evL ad L) (hs1 : st1 = evS ad st) (hL : svL (lC n) L) (hs : svS (lC n) st) (d : decode cc pc = .ok (.new idx, 3)) (q : Nat) (hq : pc + 3 = q) (ec : cs + 1 = cs1) (es : sl + N = sl1) (K : GD Γ K9 ad0 (lC n0) X (lC (n + 1)) M cs1 sl1 L (.inr n :: st) q) : G (gc Γ K9 ad (lC n)) X M cs sl L1 st1 pc :=
  d_new C hsh hc hu hty hdf hcl hin hini (hz.nz hn8) hR hag (lC_sub h0) hL1 hs1 hL hs d q hq ec es (by rw [lC_succ]; exact K)
theorem d_newaC {atype : ArrayType} {ty : FieldType} {N k cs1 sl1 : Nat} {x : Int32} (C : CX Γ X cc nL own ret R0) (hn8 : n < 108) (hsh : SHF n = some (k, N)) (hk : k < 4) (htys : (tysA (wA Γ))[k]? = some (wA Γ k, ty)) (harr : Gd (.arrayClass ty)) (hty : newarray.typeOf atype = ty) (hdf : ∀ cA : ClassId, vp_cell cA (zA k N) = arrV cA N (fun _ => defaultValue ty)) (hx : ¬ x < 0 ∧ x.toNatClampNeg = N ∧ N * componentBytes ty ≤ 536870912) (hz : Zc n M) (hR : cs + 1 ≤ R0.cells ∧ sl + N ≤ R0.slots) (hag : agr (lC n0) ad0 ad) (h0 : n0 ≤ n) {L1 : List (Option Value)} {st1 : List Value} (hL1 : L1 = evL ad L) (hs1 : st1 = .int x :: evS ad st) (hL : svL (lC n) L) (hs : svS (lC n) st) (d : decode cc pc = .ok (.newarray atype, 2)) (q : Nat) (hq : pc + 2 = q) (ec : cs + 1 = cs1) (es : sl + N = sl1) (K : GD Γ K9 ad0 (lC n0) X (lC (n + 1)) M cs1 sl1 L (.inr n :: st) q) : G (gc Γ K9 ad (lC n)) X M cs sl L1 st1 pc :=
  d_newa C hsh hk htys harr hty hdf hx (hz.nz hn8) hR hag (lC_sub h0) hL1 hs1 hL hs d q hq ec es (by rw [lC_succ]; exact K)
theorem d_newqC {idx N cs1 sl1 : Nat} {x : Int32} (C : CX Γ X cc nL own ret R0) (hn8 : n < 108) (hsh : SHF n = some (5, N)) (hN : N < 1000) (hcl : Gd (.classLink own idx "DecisionChain$Settings")) (hov : va_AO "DecisionChain$Settings" (wU Γ)) (hx : ¬ x < 0 ∧ x.toNatClampNeg = N ∧ N * 4 ≤ 536870912) (hz : Zc n M) (hR : cs + 1 ≤ R0.cells ∧ sl + N ≤ R0.slots) (hag : agr (lC n0) ad0 ad) (h0 : n0 ≤ n) {L1 : List (Option Value)} {st1 : List Value} (hL1 : L1 = evL ad L) (hs1 : st1 = .int x :: evS ad st) (hL : svL (lC n) L) (hs : svS (lC n) st) (d : decode cc pc = .ok (.anewarray idx, 3)) (q : Nat) (hq : pc + 3 = q) (ec : cs + 1 = cs1) (es : sl + N = sl1) (K : GD Γ K9 ad0 (lC n0) X (lC (n + 1)) M cs1 sl1 L (.inr n :: st) q) : G (gc Γ K9 ad (lC n)) X M cs sl L1 st1 pc :=
  d_newq C hsh hN hcl hov hx (hz.nz hn8) hR hag (lC_sub h0) hL1 hs1 hL hs d q hq ec es (by rw [lC_succ]; exact K)
end ConC
theorem ln_RX11_13 : Gd (.methodLinkNest RX11 13 yX2_init "DecisionChain") := gd 89 (by decide +kernel) rfl
theorem ln_RX11_16 : Gd (.methodLinkNest RX11 16 yX0_init "DecisionChain") := gd 122 (by decide +kernel) rfl
theorem ln_RX11_19 : Gd (.methodLinkNest RX11 19 yX7_init "DecisionChain") := gd 176 (by decide +kernel) rfl
theorem ln_RX11_22 : Gd (.methodLink RX11 22 yX1_init) := gd 230 (by decide +kernel) rfl
theorem ln_RX11_31 : Gd (.methodLink RX11 31 yX4_init) := gd 259 (by decide +kernel) rfl
theorem ln_RX11_48 : Gd (.methodLink RX11 48 yX3_init) := gd 295 (by decide +kernel) rfl
theorem ln_RX11_59 : Gd (.methodLink RX11 59 yX8_init) := gd 318 (by decide +kernel) rfl
theorem ln_RX11_66 : Gd (.methodLink RX11 66 yX5_init) := gd 337 (by decide +kernel) rfl
theorem ln_RX11_75 : Gd (.methodLink RX11 75 yX9_init) := gd 378 (by decide +kernel) rfl
theorem ln_RX11_84 : Gd (.methodLink RX11 84 yX10_init) := gd 394 (by decide +kernel) rfl
theorem ln_RX11_91 : Gd (.methodLinkNest RX11 91 yX6_init "DecisionChain") := gd 416 (by decide +kernel) rfl
theorem ln_RX3_20 : Gd (.methodLinkNest RX3 20 yX7_init "DecisionChain") := gd 301 (by decide +kernel) rfl
theorem ln_RX4_11 : Gd (.methodLinkNest RX4 11 yX0_init "DecisionChain") := gd 264 (by decide +kernel) rfl
theorem ln_RX4_20 : Gd (.methodLinkNest RX4 20 yX7_init "DecisionChain") := gd 266 (by decide +kernel) rfl
theorem mw_X0_init : MW yX0_init cX0_init 1 none 0 := ⟨gd 63 (by decide +kernel) rfl, gd 124 (by decide +kernel) rfl, ⟨by decide, by decide⟩, by decide +kernel⟩
theorem mw_X10_init : MW yX10_init cX10_init 2 none 1 := ⟨gd 71 (by decide +kernel) rfl, gd 396 (by decide +kernel) rfl, ⟨by decide, by decide⟩, by decide +kernel⟩
theorem mw_X1_init : MW yX1_init cX1_init 2 none 1 := ⟨gd 65 (by decide +kernel) rfl, gd 232 (by decide +kernel) rfl, ⟨by decide, by decide⟩, by decide +kernel⟩
theorem mw_X2_init : MW yX2_init cX2_init 1 none 0 := ⟨gd 62 (by decide +kernel) rfl, gd 91 (by decide +kernel) rfl, ⟨by decide, by decide⟩, by decide +kernel⟩
theorem mw_X3_init : MW yX3_init cX3_init 2 none 0 := ⟨gd 67 (by decide +kernel) rfl, gd 297 (by decide +kernel) rfl, ⟨by decide, by decide⟩, by decide +kernel⟩
theorem mw_X4_init : MW yX4_init cX4_init 2 none 1 := ⟨gd 66 (by decide +kernel) rfl, gd 261 (by decide +kernel) rfl, ⟨by decide, by decide⟩, by decide +kernel⟩
theorem mw_X5_init : MW yX5_init cX5_init 4 none 3 := ⟨gd 69 (by decide +kernel) rfl, gd 339 (by decide +kernel) rfl, ⟨by decide, by decide⟩, by decide +kernel⟩
theorem mw_X6_init : MW yX6_init cX6_init 1 none 0 := ⟨gd 72 (by decide +kernel) rfl, gd 418 (by decide +kernel) rfl, ⟨by decide, by decide⟩, by decide +kernel⟩
theorem mw_X7_init : MW yX7_init cX7_init 1 none 0 := ⟨gd 64 (by decide +kernel) rfl, gd 178 (by decide +kernel) rfl, ⟨by decide, by decide⟩, by decide +kernel⟩
theorem mw_X8_init : MW yX8_init cX8_init 2 none 1 := ⟨gd 68 (by decide +kernel) rfl, gd 320 (by decide +kernel) rfl, ⟨by decide, by decide⟩, by decide +kernel⟩
theorem mw_X9_init : MW yX9_init cX9_init 3 none 2 := ⟨gd 70 (by decide +kernel) rfl, gd 380 (by decide +kernel) rfl, ⟨by decide, by decide⟩, by decide +kernel⟩
theorem pk_RX8_11 : FPk RX8 11 8 1 2 false (fun v => ∃ a, v = .ref a) := ⟨_, _, _, tyX8, rc8, by decide, by decide +kernel, uw8, gd 323 (by decide +kernel) rfl, rfl, (fun h => nomatch h), tyX8_ok, nmX8, (fun v h => by obtain ⟨x, rfl⟩ := h; exact ⟨rfl, rfl⟩)⟩
theorem pk_RX8_15 : FPk RX8 15 8 2 2 false (fun v => ∃ a, v = .ref a) := ⟨_, _, _, tyX8, rc8, by decide, by decide +kernel, uw8, gd 324 (by decide +kernel) rfl, rfl, (fun h => nomatch h), tyX8_ok, nmX8, (fun v h => by obtain ⟨x, rfl⟩ := h; exact ⟨rfl, rfl⟩)⟩
theorem lo_RX11_5 : Gd (.methodLink RX11 5 objectInit) := gd 84 (by decide +kernel) rfl
theorem mi_obj : Gd (.instanceMethod objectInit) := gd 85 (by decide +kernel) rfl
theorem cw_obj : Gd (.code objectInit ⟨#[0xb1]⟩ 1 none) := gd 86 (by decide +kernel) rfl
theorem kl_RX11_11 : Gd (.classLink RX11 11 RX2) := gd 87 (by decide +kernel) rfl
theorem ki_2 : Gd (.instantiable RX2 7) := gd 88 (by decide +kernel) rfl
theorem kn_2 : Gd (.initialized RX2) := gd 62 (by decide +kernel) rfl
theorem kd_2 : ∀ k, k < 7 → defaultValue (tyX2 k) = zV (kFd 2 k) := by decide +kernel
theorem lo_RX2_3 : Gd (.methodLink RX2 3 objectInit) := gd 92 (by decide +kernel) rfl
theorem ka_byte : Gd (.arrayClass .byte) := gd 119 (by decide +kernel) rfl
theorem pkf_RX2_9 : FPk RX2 9 2 0 2 true (fun v => ∃ a, v = .ref a) := ⟨_, _, _, tyX2, rc2, by decide, by decide +kernel, uw2, gd 93 (by decide +kernel) rfl, rfl, (fun _ => rfl), tyX2_ok, nmX2, (fun v h => by obtain ⟨x, rfl⟩ := h; exact ⟨rfl, rfl⟩)⟩
theorem mii_X2_init : Gd (.instanceMethod yX2_init) ∧ yX2_init.name = "<init>" := ⟨gd 90 (by decide +kernel) rfl, rfl⟩
theorem kl_RX11_14 : Gd (.classLink RX11 14 RX0) := gd 120 (by decide +kernel) rfl
theorem ki_0 : Gd (.instantiable RX0 8) := gd 121 (by decide +kernel) rfl
theorem kn_0 : Gd (.initialized RX0) := gd 63 (by decide +kernel) rfl
theorem kd_0 : ∀ k, k < 8 → defaultValue (tyX0 k) = zV (kFd 0 k) := by decide +kernel
theorem lo_RX0_3 : Gd (.methodLink RX0 3 objectInit) := gd 125 (by decide +kernel) rfl
theorem ka_int : Gd (.arrayClass .int) := gd 173 (by decide +kernel) rfl
theorem pkf_RX0_9 : FPk RX0 9 0 2 2 true (fun v => ∃ a, v = .ref a) := ⟨_, _, _, tyX0, rc0, by decide, by decide +kernel, uw0, gd 136 (by decide +kernel) rfl, rfl, (fun _ => rfl), tyX0_ok, nmX0, (fun v h => by obtain ⟨x, rfl⟩ := h; exact ⟨rfl, rfl⟩)⟩
theorem pkf_RX0_15 : FPk RX0 15 0 3 2 true (fun v => ∃ a, v = .ref a) := ⟨_, _, _, tyX0, rc0, by decide, by decide +kernel, uw0, gd 143 (by decide +kernel) rfl, rfl, (fun _ => rfl), tyX0_ok, nmX0, (fun v h => by obtain ⟨x, rfl⟩ := h; exact ⟨rfl, rfl⟩)⟩
theorem pkf_RX0_18 : FPk RX0 18 0 4 2 true (fun v => ∃ a, v = .ref a) := ⟨_, _, _, tyX0, rc0, by decide, by decide +kernel, uw0, gd 149 (by decide +kernel) rfl, rfl, (fun _ => rfl), tyX0_ok, nmX0, (fun v h => by obtain ⟨x, rfl⟩ := h; exact ⟨rfl, rfl⟩)⟩
theorem pkf_RX0_21 : FPk RX0 21 0 5 2 true (fun v => ∃ a, v = .ref a) := ⟨_, _, _, tyX0, rc0, by decide, by decide +kernel, uw0, gd 151 (by decide +kernel) rfl, rfl, (fun _ => rfl), tyX0_ok, nmX0, (fun v h => by obtain ⟨x, rfl⟩ := h; exact ⟨rfl, rfl⟩)⟩
theorem pkf_RX0_24 : FPk RX0 24 0 6 2 true (fun v => ∃ a, v = .ref a) := ⟨_, _, _, tyX0, rc0, by decide, by decide +kernel, uw0, gd 152 (by decide +kernel) rfl, rfl, (fun _ => rfl), tyX0_ok, nmX0, (fun v h => by obtain ⟨x, rfl⟩ := h; exact ⟨rfl, rfl⟩)⟩
theorem pkf_RX0_27 : FPk RX0 27 0 7 2 true (fun v => ∃ a, v = .ref a) := ⟨_, _, _, tyX0, rc0, by decide, by decide +kernel, uw0, gd 154 (by decide +kernel) rfl, rfl, (fun _ => rfl), tyX0_ok, nmX0, (fun v h => by obtain ⟨x, rfl⟩ := h; exact ⟨rfl, rfl⟩)⟩
theorem mii_X0_init : Gd (.instanceMethod yX0_init) ∧ yX0_init.name = "<init>" := ⟨gd 123 (by decide +kernel) rfl, rfl⟩
theorem kl_RX11_17 : Gd (.classLink RX11 17 RX7) := gd 174 (by decide +kernel) rfl
theorem ki_7 : Gd (.instantiable RX7 9) := gd 175 (by decide +kernel) rfl
theorem kn_7 : Gd (.initialized RX7) := gd 64 (by decide +kernel) rfl
theorem kd_7 : ∀ k, k < 9 → defaultValue (tyX7 k) = zV (kFd 7 k) := by decide +kernel
theorem lo_RX7_3 : Gd (.methodLink RX7 3 objectInit) := gd 179 (by decide +kernel) rfl
theorem pkf_RX7_9 : FPk RX7 9 7 0 2 true (fun v => ∃ a, v = .ref a) := ⟨_, _, _, tyX7, rc7, by decide, by decide +kernel, uw7, gd 180 (by decide +kernel) rfl, rfl, (fun _ => rfl), tyX7_ok, nmX7, (fun v h => by obtain ⟨x, rfl⟩ := h; exact ⟨rfl, rfl⟩)⟩
theorem pkf_RX7_15 : FPk RX7 15 7 1 2 true (fun v => ∃ a, v = .ref a) := ⟨_, _, _, tyX7, rc7, by decide, by decide +kernel, uw7, gd 184 (by decide +kernel) rfl, rfl, (fun _ => rfl), tyX7_ok, nmX7, (fun v h => by obtain ⟨x, rfl⟩ := h; exact ⟨rfl, rfl⟩)⟩
theorem pkf_RX7_18 : FPk RX7 18 7 2 2 true (fun v => ∃ a, v = .ref a) := ⟨_, _, _, tyX7, rc7, by decide, by decide +kernel, uw7, gd 186 (by decide +kernel) rfl, rfl, (fun _ => rfl), tyX7_ok, nmX7, (fun v h => by obtain ⟨x, rfl⟩ := h; exact ⟨rfl, rfl⟩)⟩
theorem pkf_RX7_25 : FPk RX7 25 7 7 2 true (fun v => ∃ a, v = .ref a) := ⟨_, _, _, tyX7, rc7, by decide, by decide +kernel, uw7, gd 205 (by decide +kernel) rfl, rfl, (fun _ => rfl), tyX7_ok, nmX7, (fun v h => by obtain ⟨x, rfl⟩ := h; exact ⟨rfl, rfl⟩)⟩
theorem pkf_RX7_28 : FPk RX7 28 7 8 2 true (fun v => ∃ a, v = .ref a) := ⟨_, _, _, tyX7, rc7, by decide, by decide +kernel, uw7, gd 207 (by decide +kernel) rfl, rfl, (fun _ => rfl), tyX7_ok, nmX7, (fun v h => by obtain ⟨x, rfl⟩ := h; exact ⟨rfl, rfl⟩)⟩
theorem mii_X7_init : Gd (.instanceMethod yX7_init) ∧ yX7_init.name = "<init>" := ⟨gd 177 (by decide +kernel) rfl, rfl⟩
theorem kl_RX11_20 : Gd (.classLink RX11 20 RX1) := gd 228 (by decide +kernel) rfl
theorem ki_1 : Gd (.instantiable RX1 7) := gd 229 (by decide +kernel) rfl
theorem kn_1 : Gd (.initialized RX1) := gd 65 (by decide +kernel) rfl
theorem kd_1 : ∀ k, k < 7 → defaultValue (tyX1 k) = zV (kFd 1 k) := by decide +kernel
theorem lo_RX1_3 : Gd (.methodLink RX1 3 objectInit) := gd 233 (by decide +kernel) rfl
theorem ka_long : Gd (.arrayClass .long) := gd 256 (by decide +kernel) rfl
theorem pkf_RX1_9 : FPk RX1 9 1 3 2 true (fun v => ∃ a, v = .ref a) := ⟨_, _, _, tyX1, rc1, by decide, by decide +kernel, uw1, gd 237 (by decide +kernel) rfl, rfl, (fun _ => rfl), tyX1_ok, nmX1, (fun v h => by obtain ⟨x, rfl⟩ := h; exact ⟨rfl, rfl⟩)⟩
theorem pkf_RX1_15 : FPk RX1 15 1 4 2 true (fun v => ∃ a, v = .ref a) := ⟨_, _, _, tyX1, rc1, by decide, by decide +kernel, uw1, gd 238 (by decide +kernel) rfl, rfl, (fun _ => rfl), tyX1_ok, nmX1, (fun v h => by obtain ⟨x, rfl⟩ := h; exact ⟨rfl, rfl⟩)⟩
theorem pkf_RX1_18 : FPk RX1 18 1 5 2 true (fun v => ∃ a, v = .ref a) := ⟨_, _, _, tyX1, rc1, by decide, by decide +kernel, uw1, gd 239 (by decide +kernel) rfl, rfl, (fun _ => rfl), tyX1_ok, nmX1, (fun v h => by obtain ⟨x, rfl⟩ := h; exact ⟨rfl, rfl⟩)⟩
theorem pkf_RX1_21 : FPk RX1 21 1 6 2 true (fun v => ∃ a, v = .ref a) := ⟨_, _, _, tyX1, rc1, by decide, by decide +kernel, uw1, gd 240 (by decide +kernel) rfl, rfl, (fun _ => rfl), tyX1_ok, nmX1, (fun v h => by obtain ⟨x, rfl⟩ := h; exact ⟨rfl, rfl⟩)⟩
theorem pkf_RX1_24 : FPk RX1 24 1 0 2 true (fun v => ∃ a, v = .ref a) := ⟨_, _, _, tyX1, rc1, by decide, by decide +kernel, uw1, gd 234 (by decide +kernel) rfl, rfl, (fun _ => rfl), tyX1_ok, nmX1, (fun v h => by obtain ⟨x, rfl⟩ := h; exact ⟨rfl, rfl⟩)⟩
theorem mii_X1_init : Gd (.instanceMethod yX1_init) ∧ yX1_init.name = "<init>" := ⟨gd 231 (by decide +kernel) rfl, rfl⟩
theorem pkf_RX11_25 : FPk RX11 25 11 0 2 true (fun v => ∃ a, v = .ref a) := ⟨_, _, _, tyX11, rc11, by decide, by decide +kernel, uw11, gd 428 (by decide +kernel) rfl, rfl, (fun _ => rfl), tyX11_ok, nmX11, (fun v h => by obtain ⟨x, rfl⟩ := h; exact ⟨rfl, rfl⟩)⟩
theorem kl_RX11_29 : Gd (.classLink RX11 29 RX4) := gd 257 (by decide +kernel) rfl
theorem ki_4 : Gd (.instantiable RX4 7) := gd 258 (by decide +kernel) rfl
theorem kn_4 : Gd (.initialized RX4) := gd 66 (by decide +kernel) rfl
theorem kd_4 : ∀ k, k < 7 → defaultValue (tyX4 k) = zV (kFd 4 k) := by decide +kernel
theorem lo_RX4_3 : Gd (.methodLink RX4 3 objectInit) := gd 262 (by decide +kernel) rfl
theorem kl_RX4_9 : Gd (.classLink RX4 9 RX0) := gd 263 (by decide +kernel) rfl
theorem pkf_RX4_12 : FPk RX4 12 4 0 2 true (fun v => ∃ a, v = .ref a) := ⟨_, _, _, tyX4, rc4, by decide, by decide +kernel, uw4, gd 267 (by decide +kernel) rfl, rfl, (fun _ => rfl), tyX4_ok, nmX4, (fun v h => by obtain ⟨x, rfl⟩ := h; exact ⟨rfl, rfl⟩)⟩
theorem kl_RX4_18 : Gd (.classLink RX4 18 RX7) := gd 265 (by decide +kernel) rfl
theorem pkf_RX4_21 : FPk RX4 21 4 1 2 true (fun v => ∃ a, v = .ref a) := ⟨_, _, _, tyX4, rc4, by decide, by decide +kernel, uw4, gd 269 (by decide +kernel) rfl, rfl, (fun _ => rfl), tyX4_ok, nmX4, (fun v h => by obtain ⟨x, rfl⟩ := h; exact ⟨rfl, rfl⟩)⟩
theorem pkf_RX4_29 : FPk RX4 29 4 4 2 true (fun v => ∃ a, v = .ref a) := ⟨_, _, _, tyX4, rc4, by decide, by decide +kernel, uw4, gd 275 (by decide +kernel) rfl, rfl, (fun _ => rfl), tyX4_ok, nmX4, (fun v h => by obtain ⟨x, rfl⟩ := h; exact ⟨rfl, rfl⟩)⟩
theorem mii_X4_init : Gd (.instanceMethod yX4_init) ∧ yX4_init.name = "<init>" := ⟨gd 260 (by decide +kernel) rfl, rfl⟩
theorem pkf_RX11_34 : FPk RX11 34 11 1 2 true (fun v => ∃ a, v = .ref a) := ⟨_, _, _, tyX11, rc11, by decide, by decide +kernel, uw11, gd 429 (by decide +kernel) rfl, rfl, (fun _ => rfl), tyX11_ok, nmX11, (fun v h => by obtain ⟨x, rfl⟩ := h; exact ⟨rfl, rfl⟩)⟩
theorem pkf_RX11_38 : FPk RX11 38 11 2 2 true (fun v => ∃ a, v = .ref a) := ⟨_, _, _, tyX11, rc11, by decide, by decide +kernel, uw11, gd 430 (by decide +kernel) rfl, rfl, (fun _ => rfl), tyX11_ok, nmX11, (fun v h => by obtain ⟨x, rfl⟩ := h; exact ⟨rfl, rfl⟩)⟩
theorem pkf_RX11_42 : FPk RX11 42 11 3 2 true (fun v => ∃ a, v = .ref a) := ⟨_, _, _, tyX11, rc11, by decide, by decide +kernel, uw11, gd 431 (by decide +kernel) rfl, rfl, (fun _ => rfl), tyX11_ok, nmX11, (fun v h => by obtain ⟨x, rfl⟩ := h; exact ⟨rfl, rfl⟩)⟩
theorem kl_RX11_46 : Gd (.classLink RX11 46 RX3) := gd 293 (by decide +kernel) rfl
theorem ki_3 : Gd (.instantiable RX3 4) := gd 294 (by decide +kernel) rfl
theorem kn_3 : Gd (.initialized RX3) := gd 67 (by decide +kernel) rfl
theorem kd_3 : ∀ k, k < 4 → defaultValue (tyX3 k) = zV (kFd 3 k) := by decide +kernel
theorem lo_RX3_3 : Gd (.methodLink RX3 3 objectInit) := gd 298 (by decide +kernel) rfl
theorem kl_RX3_9 : Gd (.classLink RX3 9 RX7) := gd 299 (by decide +kernel) rfl
theorem pkf_RX3_11 : FPk RX3 11 3 1 2 true (fun v => ∃ a, v = .ref a) := ⟨_, _, _, tyX3, rc3, by decide, by decide +kernel, uw3, gd 304 (by decide +kernel) rfl, rfl, (fun _ => rfl), tyX3_ok, nmX3, (fun v h => by obtain ⟨x, rfl⟩ := h; exact ⟨rfl, rfl⟩)⟩
theorem pkf_RX3_17 : FPk RX3 17 3 2 2 true (fun v => ∃ a, v = .ref a) := ⟨_, _, _, tyX3, rc3, by decide, by decide +kernel, uw3, gd 305 (by decide +kernel) rfl, rfl, (fun _ => rfl), tyX3_ok, nmX3, (fun v h => by obtain ⟨x, rfl⟩ := h; exact ⟨rfl, rfl⟩)⟩
theorem mii_X3_init : Gd (.instanceMethod yX3_init) ∧ yX3_init.name = "<init>" := ⟨gd 296 (by decide +kernel) rfl, rfl⟩
theorem pkf_RX11_49 : FPk RX11 49 11 4 2 true (fun v => ∃ a, v = .ref a) := ⟨_, _, _, tyX11, rc11, by decide, by decide +kernel, uw11, gd 432 (by decide +kernel) rfl, rfl, (fun _ => rfl), tyX11_ok, nmX11, (fun v h => by obtain ⟨x, rfl⟩ := h; exact ⟨rfl, rfl⟩)⟩
theorem pkf_RX11_53 : FPk RX11 53 11 5 2 true (fun v => ∃ a, v = .ref a) := ⟨_, _, _, tyX11, rc11, by decide, by decide +kernel, uw11, gd 433 (by decide +kernel) rfl, rfl, (fun _ => rfl), tyX11_ok, nmX11, (fun v h => by obtain ⟨x, rfl⟩ := h; exact ⟨rfl, rfl⟩)⟩
theorem kl_RX11_57 : Gd (.classLink RX11 57 RX8) := gd 316 (by decide +kernel) rfl
theorem ki_8 : Gd (.instantiable RX8 4) := gd 317 (by decide +kernel) rfl
theorem kn_8 : Gd (.initialized RX8) := gd 68 (by decide +kernel) rfl
theorem kd_8 : ∀ k, k < 4 → defaultValue (tyX8 k) = zV (kFd 8 k) := by decide +kernel
theorem lo_RX8_3 : Gd (.methodLink RX8 3 objectInit) := gd 321 (by decide +kernel) rfl
theorem pkf_RX8_18 : FPk RX8 18 8 3 2 true (fun v => ∃ a, v = .ref a) := ⟨_, _, _, tyX8, rc8, by decide, by decide +kernel, uw8, gd 325 (by decide +kernel) rfl, rfl, (fun _ => rfl), tyX8_ok, nmX8, (fun v h => by obtain ⟨x, rfl⟩ := h; exact ⟨rfl, rfl⟩)⟩
theorem pkf_RX8_22 : FPk RX8 22 8 0 2 true (fun v => ∃ a, v = .ref a) := ⟨_, _, _, tyX8, rc8, by decide, by decide +kernel, uw8, gd 322 (by decide +kernel) rfl, rfl, (fun _ => rfl), tyX8_ok, nmX8, (fun v h => by obtain ⟨x, rfl⟩ := h; exact ⟨rfl, rfl⟩)⟩
theorem mii_X8_init : Gd (.instanceMethod yX8_init) ∧ yX8_init.name = "<init>" := ⟨gd 319 (by decide +kernel) rfl, rfl⟩
theorem pkf_RX11_60 : FPk RX11 60 11 6 2 true (fun v => ∃ a, v = .ref a) := ⟨_, _, _, tyX11, rc11, by decide, by decide +kernel, uw11, gd 434 (by decide +kernel) rfl, rfl, (fun _ => rfl), tyX11_ok, nmX11, (fun v h => by obtain ⟨x, rfl⟩ := h; exact ⟨rfl, rfl⟩)⟩
theorem kl_RX11_64 : Gd (.classLink RX11 64 RX5) := gd 335 (by decide +kernel) rfl
theorem ki_5 : Gd (.instantiable RX5 11) := gd 336 (by decide +kernel) rfl
theorem kn_5 : Gd (.initialized RX5) := gd 69 (by decide +kernel) rfl
theorem kd_5 : ∀ k, k < 11 → defaultValue (tyX5 k) = zV (kFd 5 k) := by decide +kernel
theorem lo_RX5_3 : Gd (.methodLink RX5 3 objectInit) := gd 340 (by decide +kernel) rfl
theorem pkf_RX5_9 : FPk RX5 9 5 3 2 true (fun v => ∃ a, v = .ref a) := ⟨_, _, _, tyX5, rc5, by decide, by decide +kernel, uw5, gd 344 (by decide +kernel) rfl, rfl, (fun _ => rfl), tyX5_ok, nmX5, (fun v h => by obtain ⟨x, rfl⟩ := h; exact ⟨rfl, rfl⟩)⟩
theorem pkf_RX5_15 : FPk RX5 15 5 4 2 true (fun v => ∃ a, v = .ref a) := ⟨_, _, _, tyX5, rc5, by decide, by decide +kernel, uw5, gd 345 (by decide +kernel) rfl, rfl, (fun _ => rfl), tyX5_ok, nmX5, (fun v h => by obtain ⟨x, rfl⟩ := h; exact ⟨rfl, rfl⟩)⟩
theorem pkf_RX5_25 : FPk RX5 25 5 8 2 true (fun v => ∃ a, v = .ref a) := ⟨_, _, _, tyX5, rc5, by decide, by decide +kernel, uw5, gd 349 (by decide +kernel) rfl, rfl, (fun _ => rfl), tyX5_ok, nmX5, (fun v h => by obtain ⟨x, rfl⟩ := h; exact ⟨rfl, rfl⟩)⟩
theorem pkf_RX5_29 : FPk RX5 29 5 9 2 true (fun v => ∃ a, v = .ref a) := ⟨_, _, _, tyX5, rc5, by decide, by decide +kernel, uw5, gd 350 (by decide +kernel) rfl, rfl, (fun _ => rfl), tyX5_ok, nmX5, (fun v h => by obtain ⟨x, rfl⟩ := h; exact ⟨rfl, rfl⟩)⟩
theorem pkf_RX5_32 : FPk RX5 32 5 10 2 true (fun v => ∃ a, v = .ref a) := ⟨_, _, _, tyX5, rc5, by decide, by decide +kernel, uw5, gd 351 (by decide +kernel) rfl, rfl, (fun _ => rfl), tyX5_ok, nmX5, (fun v h => by obtain ⟨x, rfl⟩ := h; exact ⟨rfl, rfl⟩)⟩
theorem pkf_RX5_35 : FPk RX5 35 5 0 2 true (fun v => ∃ a, v = .ref a) := ⟨_, _, _, tyX5, rc5, by decide, by decide +kernel, uw5, gd 341 (by decide +kernel) rfl, rfl, (fun _ => rfl), tyX5_ok, nmX5, (fun v h => by obtain ⟨x, rfl⟩ := h; exact ⟨rfl, rfl⟩)⟩
theorem pkf_RX5_39 : FPk RX5 39 5 1 2 true (fun v => ∃ a, v = .ref a) := ⟨_, _, _, tyX5, rc5, by decide, by decide +kernel, uw5, gd 342 (by decide +kernel) rfl, rfl, (fun _ => rfl), tyX5_ok, nmX5, (fun v h => by obtain ⟨x, rfl⟩ := h; exact ⟨rfl, rfl⟩)⟩
theorem pkf_RX5_43 : FPk RX5 43 5 2 2 true (fun v => ∃ a, v = .ref a) := ⟨_, _, _, tyX5, rc5, by decide, by decide +kernel, uw5, gd 343 (by decide +kernel) rfl, rfl, (fun _ => rfl), tyX5_ok, nmX5, (fun v h => by obtain ⟨x, rfl⟩ := h; exact ⟨rfl, rfl⟩)⟩
theorem mii_X5_init : Gd (.instanceMethod yX5_init) ∧ yX5_init.name = "<init>" := ⟨gd 338 (by decide +kernel) rfl, rfl⟩
theorem pkf_RX11_69 : FPk RX11 69 11 7 2 true (fun v => ∃ a, v = .ref a) := ⟨_, _, _, tyX11, rc11, by decide, by decide +kernel, uw11, gd 435 (by decide +kernel) rfl, rfl, (fun _ => rfl), tyX11_ok, nmX11, (fun v h => by obtain ⟨x, rfl⟩ := h; exact ⟨rfl, rfl⟩)⟩
theorem kl_RX11_73 : Gd (.classLink RX11 73 RX9) := gd 376 (by decide +kernel) rfl
theorem ki_9 : Gd (.instantiable RX9 3) := gd 377 (by decide +kernel) rfl
theorem kn_9 : Gd (.initialized RX9) := gd 70 (by decide +kernel) rfl
theorem kd_9 : ∀ k, k < 3 → defaultValue (tyX9 k) = zV (kFd 9 k) := by decide +kernel
theorem lo_RX9_3 : Gd (.methodLink RX9 3 objectInit) := gd 381 (by decide +kernel) rfl
theorem pkf_RX9_9 : FPk RX9 9 9 2 2 true (fun v => ∃ a, v = .ref a) := ⟨_, _, _, tyX9, rc9, by decide, by decide +kernel, uw9, gd 384 (by decide +kernel) rfl, rfl, (fun _ => rfl), tyX9_ok, nmX9, (fun v h => by obtain ⟨x, rfl⟩ := h; exact ⟨rfl, rfl⟩)⟩
theorem pkf_RX9_15 : FPk RX9 15 9 0 2 true (fun v => ∃ a, v = .ref a) := ⟨_, _, _, tyX9, rc9, by decide, by decide +kernel, uw9, gd 382 (by decide +kernel) rfl, rfl, (fun _ => rfl), tyX9_ok, nmX9, (fun v h => by obtain ⟨x, rfl⟩ := h; exact ⟨rfl, rfl⟩)⟩
theorem pkf_RX9_19 : FPk RX9 19 9 1 2 true (fun v => ∃ a, v = .ref a) := ⟨_, _, _, tyX9, rc9, by decide, by decide +kernel, uw9, gd 383 (by decide +kernel) rfl, rfl, (fun _ => rfl), tyX9_ok, nmX9, (fun v h => by obtain ⟨x, rfl⟩ := h; exact ⟨rfl, rfl⟩)⟩
theorem mii_X9_init : Gd (.instanceMethod yX9_init) ∧ yX9_init.name = "<init>" := ⟨gd 379 (by decide +kernel) rfl, rfl⟩
theorem pkf_RX11_78 : FPk RX11 78 11 8 2 true (fun v => ∃ a, v = .ref a) := ⟨_, _, _, tyX11, rc11, by decide, by decide +kernel, uw11, gd 436 (by decide +kernel) rfl, rfl, (fun _ => rfl), tyX11_ok, nmX11, (fun v h => by obtain ⟨x, rfl⟩ := h; exact ⟨rfl, rfl⟩)⟩
theorem kl_RX11_82 : Gd (.classLink RX11 82 RX10) := gd 392 (by decide +kernel) rfl
theorem ki_10 : Gd (.instantiable RX10 4) := gd 393 (by decide +kernel) rfl
theorem kn_10 : Gd (.initialized RX10) := gd 71 (by decide +kernel) rfl
theorem kd_10 : ∀ k, k < 4 → defaultValue (tyX10 k) = zV (kFd 10 k) := by decide +kernel
theorem lo_RX10_3 : Gd (.methodLink RX10 3 objectInit) := gd 397 (by decide +kernel) rfl
theorem pkf_RX10_9 : FPk RX10 9 10 0 2 true (fun v => ∃ a, v = .ref a) := ⟨_, _, _, tyX10, rc10, by decide, by decide +kernel, uw10, gd 398 (by decide +kernel) rfl, rfl, (fun _ => rfl), tyX10_ok, nmX10, (fun v h => by obtain ⟨x, rfl⟩ := h; exact ⟨rfl, rfl⟩)⟩
theorem mii_X10_init : Gd (.instanceMethod yX10_init) ∧ yX10_init.name = "<init>" := ⟨gd 395 (by decide +kernel) rfl, rfl⟩
theorem pkf_RX11_85 : FPk RX11 85 11 9 2 true (fun v => ∃ a, v = .ref a) := ⟨_, _, _, tyX11, rc11, by decide, by decide +kernel, uw11, gd 437 (by decide +kernel) rfl, rfl, (fun _ => rfl), tyX11_ok, nmX11, (fun v h => by obtain ⟨x, rfl⟩ := h; exact ⟨rfl, rfl⟩)⟩
theorem kl_RX11_89 : Gd (.classLink RX11 89 RX6) := gd 414 (by decide +kernel) rfl
theorem ki_6 : Gd (.instantiable RX6 2) := gd 415 (by decide +kernel) rfl
theorem kn_6 : Gd (.initialized RX6) := gd 72 (by decide +kernel) rfl
theorem kd_6 : ∀ k, k < 2 → defaultValue (tyX6 k) = zV (kFd 6 k) := by decide +kernel
theorem lo_RX6_3 : Gd (.methodLink RX6 3 objectInit) := gd 419 (by decide +kernel) rfl
theorem pkf_RX6_11 : FPk RX6 11 6 0 2 true (fun v => ∃ a, v = .ref a) := ⟨_, _, _, tyX6, rc6, by decide, by decide +kernel, uw6, gd 420 (by decide +kernel) rfl, rfl, (fun _ => rfl), tyX6_ok, nmX6, (fun v h => by obtain ⟨x, rfl⟩ := h; exact ⟨rfl, rfl⟩)⟩
theorem mii_X6_init : Gd (.instanceMethod yX6_init) ∧ yX6_init.name = "<init>" := ⟨gd 417 (by decide +kernel) rfl, rfl⟩
theorem pkf_RX11_92 : FPk RX11 92 11 10 2 true (fun v => ∃ a, v = .ref a) := ⟨_, _, _, tyX11, rc11, by decide, by decide +kernel, uw11, gd 438 (by decide +kernel) rfl, rfl, (fun _ => rfl), tyX11_ok, nmX11, (fun v h => by obtain ⟨x, rfl⟩ := h; exact ⟨rfl, rfl⟩)⟩
theorem pkf_RX11_96 : FPk RX11 96 11 11 2 true (fun v => ∃ a, v = .ref a) := ⟨_, _, _, tyX11, rc11, by decide, by decide +kernel, uw11, gd 439 (by decide +kernel) rfl, rfl, (fun _ => rfl), tyX11_ok, nmX11, (fun v h => by obtain ⟨x, rfl⟩ := h; exact ⟨rfl, rfl⟩)⟩
def mm1 (M : Mem) : Mem := sR M 1 0 (some 2)
theorem zr1 {M : Mem} (hz : Zc 0 M) : Zc 3 (mm1 M) := (hz.mono (by decide)).sR (by decide) (by decide)
def mm2 (M : Mem) : Mem := sR (mm1 M) 3 2 (some 4)
theorem zr2 {M : Mem} (hz : Zc 0 M) : Zc 5 (mm2 M) := ((zr1 hz).mono (by decide)).sR (by decide) (by decide)
def mm3 (M : Mem) : Mem := sR (mm2 M) 3 3 (some 5)
theorem zr3 {M : Mem} (hz : Zc 0 M) : Zc 6 (mm3 M) := ((zr2 hz).mono (by decide)).sR (by decide) (by decide)
def mm4 (M : Mem) : Mem := sR (mm3 M) 3 4 (some 6)
theorem zr4 {M : Mem} (hz : Zc 0 M) : Zc 7 (mm4 M) := ((zr3 hz).mono (by decide)).sR (by decide) (by decide)
def mm5 (M : Mem) : Mem := sR (mm4 M) 3 5 (some 7)
theorem zr5 {M : Mem} (hz : Zc 0 M) : Zc 8 (mm5 M) := ((zr4 hz).mono (by decide)).sR (by decide) (by decide)
def mm6 (M : Mem) : Mem := sR (mm5 M) 3 6 (some 8)
theorem zr6 {M : Mem} (hz : Zc 0 M) : Zc 9 (mm6 M) := ((zr5 hz).mono (by decide)).sR (by decide) (by decide)
def mm7 (M : Mem) : Mem := sR (mm6 M) 3 7 (some 9)
theorem zr7 {M : Mem} (hz : Zc 0 M) : Zc 10 (mm7 M) := ((zr6 hz).mono (by decide)).sR (by decide) (by decide)
def mm8 (M : Mem) : Mem := sR (mm7 M) 10 0 (some 11)
theorem zr8 {M : Mem} (hz : Zc 0 M) : Zc 12 (mm8 M) := ((zr7 hz).mono (by decide)).sR (by decide) (by decide)
def mm9 (M : Mem) : Mem := sR (mm8 M) 10 1 (some 12)
theorem zr9 {M : Mem} (hz : Zc 0 M) : Zc 13 (mm9 M) := ((zr8 hz).mono (by decide)).sR (by decide) (by decide)
def mm10 (M : Mem) : Mem := sR (mm9 M) 10 2 (some 13)
theorem zr10 {M : Mem} (hz : Zc 0 M) : Zc 14 (mm10 M) := ((zr9 hz).mono (by decide)).sR (by decide) (by decide)
def mm11 (M : Mem) : Mem := sI (mm10 M) 10 6 (-1 : Int32)
theorem zr11 {M : Mem} (hz : Zc 0 M) : Zc 14 (mm11 M) := ((zr10 hz).mono (by decide)).sI (by decide)
def mm12 (M : Mem) : Mem := sR (mm11 M) 10 7 (some 14)
theorem zr12 {M : Mem} (hz : Zc 0 M) : Zc 15 (mm12 M) := ((zr11 hz).mono (by decide)).sR (by decide) (by decide)
def mm13 (M : Mem) : Mem := sR (mm12 M) 10 8 (some 15)
theorem zr13 {M : Mem} (hz : Zc 0 M) : Zc 16 (mm13 M) := ((zr12 hz).mono (by decide)).sR (by decide) (by decide)
def mm14 (M : Mem) : Mem := sR (mm13 M) 16 3 (some 17)
theorem zr14 {M : Mem} (hz : Zc 0 M) : Zc 18 (mm14 M) := ((zr13 hz).mono (by decide)).sR (by decide) (by decide)
def mm15 (M : Mem) : Mem := sR (mm14 M) 16 4 (some 18)
theorem zr15 {M : Mem} (hz : Zc 0 M) : Zc 19 (mm15 M) := ((zr14 hz).mono (by decide)).sR (by decide) (by decide)
def mm16 (M : Mem) : Mem := sR (mm15 M) 16 5 (some 19)
theorem zr16 {M : Mem} (hz : Zc 0 M) : Zc 20 (mm16 M) := ((zr15 hz).mono (by decide)).sR (by decide) (by decide)
def mm17 (M : Mem) : Mem := sR (mm16 M) 16 6 (some 20)
theorem zr17 {M : Mem} (hz : Zc 0 M) : Zc 21 (mm17 M) := ((zr16 hz).mono (by decide)).sR (by decide) (by decide)
def mm18 (M : Mem) : Mem := sR (mm17 M) 16 0 (some 3)
theorem zr18 {M : Mem} (hz : Zc 0 M) : Zc 21 (mm18 M) := ((zr17 hz).mono (by decide)).sR (by decide) (by decide)
def mm19 (M : Mem) : Mem := sR (mm18 M) 0 0 (some 1)
theorem zr19 {M : Mem} (hz : Zc 0 M) : Zc 21 (mm19 M) := ((zr18 hz).mono (by decide)).sR (by decide) (by decide)
def mm20 (M : Mem) : Mem := sR (mm19 M) 22 2 (some 23)
theorem zr20 {M : Mem} (hz : Zc 0 M) : Zc 24 (mm20 M) := ((zr19 hz).mono (by decide)).sR (by decide) (by decide)
def mm21 (M : Mem) : Mem := sR (mm20 M) 22 3 (some 24)
theorem zr21 {M : Mem} (hz : Zc 0 M) : Zc 25 (mm21 M) := ((zr20 hz).mono (by decide)).sR (by decide) (by decide)
def mm22 (M : Mem) : Mem := sR (mm21 M) 22 4 (some 25)
theorem zr22 {M : Mem} (hz : Zc 0 M) : Zc 26 (mm22 M) := ((zr21 hz).mono (by decide)).sR (by decide) (by decide)
def mm23 (M : Mem) : Mem := sR (mm22 M) 22 5 (some 26)
theorem zr23 {M : Mem} (hz : Zc 0 M) : Zc 27 (mm23 M) := ((zr22 hz).mono (by decide)).sR (by decide) (by decide)
def mm24 (M : Mem) : Mem := sR (mm23 M) 22 6 (some 27)
theorem zr24 {M : Mem} (hz : Zc 0 M) : Zc 28 (mm24 M) := ((zr23 hz).mono (by decide)).sR (by decide) (by decide)
def mm25 (M : Mem) : Mem := sR (mm24 M) 22 7 (some 28)
theorem zr25 {M : Mem} (hz : Zc 0 M) : Zc 29 (mm25 M) := ((zr24 hz).mono (by decide)).sR (by decide) (by decide)
def mm26 (M : Mem) : Mem := sR (mm25 M) 21 0 (some 22)
theorem zr26 {M : Mem} (hz : Zc 0 M) : Zc 29 (mm26 M) := ((zr25 hz).mono (by decide)).sR (by decide) (by decide)
def mm27 (M : Mem) : Mem := sR (mm26 M) 29 0 (some 30)
theorem zr27 {M : Mem} (hz : Zc 0 M) : Zc 31 (mm27 M) := ((zr26 hz).mono (by decide)).sR (by decide) (by decide)
def mm28 (M : Mem) : Mem := sR (mm27 M) 29 1 (some 31)
theorem zr28 {M : Mem} (hz : Zc 0 M) : Zc 32 (mm28 M) := ((zr27 hz).mono (by decide)).sR (by decide) (by decide)
def mm29 (M : Mem) : Mem := sR (mm28 M) 29 2 (some 32)
theorem zr29 {M : Mem} (hz : Zc 0 M) : Zc 33 (mm29 M) := ((zr28 hz).mono (by decide)).sR (by decide) (by decide)
def mm30 (M : Mem) : Mem := sI (mm29 M) 29 6 (-1 : Int32)
theorem zr30 {M : Mem} (hz : Zc 0 M) : Zc 33 (mm30 M) := ((zr29 hz).mono (by decide)).sI (by decide)
def mm31 (M : Mem) : Mem := sR (mm30 M) 29 7 (some 33)
theorem zr31 {M : Mem} (hz : Zc 0 M) : Zc 34 (mm31 M) := ((zr30 hz).mono (by decide)).sR (by decide) (by decide)
def mm32 (M : Mem) : Mem := sR (mm31 M) 29 8 (some 34)
theorem zr32 {M : Mem} (hz : Zc 0 M) : Zc 35 (mm32 M) := ((zr31 hz).mono (by decide)).sR (by decide) (by decide)
def mm33 (M : Mem) : Mem := sR (mm32 M) 21 1 (some 29)
theorem zr33 {M : Mem} (hz : Zc 0 M) : Zc 35 (mm33 M) := ((zr32 hz).mono (by decide)).sR (by decide) (by decide)
def mm34 (M : Mem) : Mem := sI (mm33 M) 21 3 (-1 : Int32)
theorem zr34 {M : Mem} (hz : Zc 0 M) : Zc 35 (mm34 M) := ((zr33 hz).mono (by decide)).sI (by decide)
def mm35 (M : Mem) : Mem := sR (mm34 M) 21 4 (some 1)
theorem zr35 {M : Mem} (hz : Zc 0 M) : Zc 35 (mm35 M) := ((zr34 hz).mono (by decide)).sR (by decide) (by decide)
def mm36 (M : Mem) : Mem := sR (mm35 M) 0 1 (some 21)
theorem zr36 {M : Mem} (hz : Zc 0 M) : Zc 35 (mm36 M) := ((zr35 hz).mono (by decide)).sR (by decide) (by decide)
def mm37 (M : Mem) : Mem := sR (mm36 M) 0 2 (some 3)
theorem zr37 {M : Mem} (hz : Zc 0 M) : Zc 35 (mm37 M) := ((zr36 hz).mono (by decide)).sR (by decide) (by decide)
def mm38 (M : Mem) : Mem := sR (mm37 M) 0 3 (some 10)
theorem zr38 {M : Mem} (hz : Zc 0 M) : Zc 35 (mm38 M) := ((zr37 hz).mono (by decide)).sR (by decide) (by decide)
def mm39 (M : Mem) : Mem := sR (mm38 M) 35 1 (some 36)
theorem zr39 {M : Mem} (hz : Zc 0 M) : Zc 37 (mm39 M) := ((zr38 hz).mono (by decide)).sR (by decide) (by decide)
def mm40 (M : Mem) : Mem := sR (mm39 M) 35 2 (some 37)
theorem zr40 {M : Mem} (hz : Zc 0 M) : Zc 38 (mm40 M) := ((zr39 hz).mono (by decide)).sR (by decide) (by decide)
def mm41 (M : Mem) : Mem := sR (mm40 M) 38 0 (some 39)
theorem zr41 {M : Mem} (hz : Zc 0 M) : Zc 40 (mm41 M) := ((zr40 hz).mono (by decide)).sR (by decide) (by decide)
def mm42 (M : Mem) : Mem := sR (mm41 M) 38 1 (some 40)
theorem zr42 {M : Mem} (hz : Zc 0 M) : Zc 41 (mm42 M) := ((zr41 hz).mono (by decide)).sR (by decide) (by decide)
def mm43 (M : Mem) : Mem := sR (mm42 M) 38 2 (some 41)
theorem zr43 {M : Mem} (hz : Zc 0 M) : Zc 42 (mm43 M) := ((zr42 hz).mono (by decide)).sR (by decide) (by decide)
def mm44 (M : Mem) : Mem := sI (mm43 M) 38 6 (-1 : Int32)
theorem zr44 {M : Mem} (hz : Zc 0 M) : Zc 42 (mm44 M) := ((zr43 hz).mono (by decide)).sI (by decide)
def mm45 (M : Mem) : Mem := sR (mm44 M) 38 7 (some 42)
theorem zr45 {M : Mem} (hz : Zc 0 M) : Zc 43 (mm45 M) := ((zr44 hz).mono (by decide)).sR (by decide) (by decide)
def mm46 (M : Mem) : Mem := sR (mm45 M) 38 8 (some 43)
theorem zr46 {M : Mem} (hz : Zc 0 M) : Zc 44 (mm46 M) := ((zr45 hz).mono (by decide)).sR (by decide) (by decide)
def mm47 (M : Mem) : Mem := sR (mm46 M) 36 0 (some 38)
theorem zr47 {M : Mem} (hz : Zc 0 M) : Zc 44 (mm47 M) := ((zr46 hz).mono (by decide)).sR (by decide) (by decide)
def mm48 (M : Mem) : Mem := sR (mm47 M) 44 0 (some 45)
theorem zr48 {M : Mem} (hz : Zc 0 M) : Zc 46 (mm48 M) := ((zr47 hz).mono (by decide)).sR (by decide) (by decide)
def mm49 (M : Mem) : Mem := sR (mm48 M) 44 1 (some 46)
theorem zr49 {M : Mem} (hz : Zc 0 M) : Zc 47 (mm49 M) := ((zr48 hz).mono (by decide)).sR (by decide) (by decide)
def mm50 (M : Mem) : Mem := sR (mm49 M) 44 2 (some 47)
theorem zr50 {M : Mem} (hz : Zc 0 M) : Zc 48 (mm50 M) := ((zr49 hz).mono (by decide)).sR (by decide) (by decide)
def mm51 (M : Mem) : Mem := sI (mm50 M) 44 6 (-1 : Int32)
theorem zr51 {M : Mem} (hz : Zc 0 M) : Zc 48 (mm51 M) := ((zr50 hz).mono (by decide)).sI (by decide)
def mm52 (M : Mem) : Mem := sR (mm51 M) 44 7 (some 48)
theorem zr52 {M : Mem} (hz : Zc 0 M) : Zc 49 (mm52 M) := ((zr51 hz).mono (by decide)).sR (by decide) (by decide)
def mm53 (M : Mem) : Mem := sR (mm52 M) 44 8 (some 49)
theorem zr53 {M : Mem} (hz : Zc 0 M) : Zc 50 (mm53 M) := ((zr52 hz).mono (by decide)).sR (by decide) (by decide)
def mm54 (M : Mem) : Mem := sR (mm53 M) 36 1 (some 44)
theorem zr54 {M : Mem} (hz : Zc 0 M) : Zc 50 (mm54 M) := ((zr53 hz).mono (by decide)).sR (by decide) (by decide)
def mm55 (M : Mem) : Mem := sR (mm54 M) 50 0 (some 51)
theorem zr55 {M : Mem} (hz : Zc 0 M) : Zc 52 (mm55 M) := ((zr54 hz).mono (by decide)).sR (by decide) (by decide)
def mm56 (M : Mem) : Mem := sR (mm55 M) 50 1 (some 52)
theorem zr56 {M : Mem} (hz : Zc 0 M) : Zc 53 (mm56 M) := ((zr55 hz).mono (by decide)).sR (by decide) (by decide)
def mm57 (M : Mem) : Mem := sR (mm56 M) 50 2 (some 53)
theorem zr57 {M : Mem} (hz : Zc 0 M) : Zc 54 (mm57 M) := ((zr56 hz).mono (by decide)).sR (by decide) (by decide)
def mm58 (M : Mem) : Mem := sI (mm57 M) 50 6 (-1 : Int32)
theorem zr58 {M : Mem} (hz : Zc 0 M) : Zc 54 (mm58 M) := ((zr57 hz).mono (by decide)).sI (by decide)
def mm59 (M : Mem) : Mem := sR (mm58 M) 50 7 (some 54)
theorem zr59 {M : Mem} (hz : Zc 0 M) : Zc 55 (mm59 M) := ((zr58 hz).mono (by decide)).sR (by decide) (by decide)
def mm60 (M : Mem) : Mem := sR (mm59 M) 50 8 (some 55)
theorem zr60 {M : Mem} (hz : Zc 0 M) : Zc 56 (mm60 M) := ((zr59 hz).mono (by decide)).sR (by decide) (by decide)
def mm61 (M : Mem) : Mem := sR (mm60 M) 36 2 (some 50)
theorem zr61 {M : Mem} (hz : Zc 0 M) : Zc 56 (mm61 M) := ((zr60 hz).mono (by decide)).sR (by decide) (by decide)
def mm62 (M : Mem) : Mem := sR (mm61 M) 56 0 (some 57)
theorem zr62 {M : Mem} (hz : Zc 0 M) : Zc 58 (mm62 M) := ((zr61 hz).mono (by decide)).sR (by decide) (by decide)
def mm63 (M : Mem) : Mem := sR (mm62 M) 56 1 (some 58)
theorem zr63 {M : Mem} (hz : Zc 0 M) : Zc 59 (mm63 M) := ((zr62 hz).mono (by decide)).sR (by decide) (by decide)
def mm64 (M : Mem) : Mem := sR (mm63 M) 56 2 (some 59)
theorem zr64 {M : Mem} (hz : Zc 0 M) : Zc 60 (mm64 M) := ((zr63 hz).mono (by decide)).sR (by decide) (by decide)
def mm65 (M : Mem) : Mem := sI (mm64 M) 56 6 (-1 : Int32)
theorem zr65 {M : Mem} (hz : Zc 0 M) : Zc 60 (mm65 M) := ((zr64 hz).mono (by decide)).sI (by decide)
def mm66 (M : Mem) : Mem := sR (mm65 M) 56 7 (some 60)
theorem zr66 {M : Mem} (hz : Zc 0 M) : Zc 61 (mm66 M) := ((zr65 hz).mono (by decide)).sR (by decide) (by decide)
def mm67 (M : Mem) : Mem := sR (mm66 M) 56 8 (some 61)
theorem zr67 {M : Mem} (hz : Zc 0 M) : Zc 62 (mm67 M) := ((zr66 hz).mono (by decide)).sR (by decide) (by decide)
def mm68 (M : Mem) : Mem := sR (mm67 M) 36 3 (some 56)
theorem zr68 {M : Mem} (hz : Zc 0 M) : Zc 62 (mm68 M) := ((zr67 hz).mono (by decide)).sR (by decide) (by decide)
def mm69 (M : Mem) : Mem := sR (mm68 M) 62 0 (some 63)
theorem zr69 {M : Mem} (hz : Zc 0 M) : Zc 64 (mm69 M) := ((zr68 hz).mono (by decide)).sR (by decide) (by decide)
def mm70 (M : Mem) : Mem := sR (mm69 M) 62 1 (some 64)
theorem zr70 {M : Mem} (hz : Zc 0 M) : Zc 65 (mm70 M) := ((zr69 hz).mono (by decide)).sR (by decide) (by decide)
def mm71 (M : Mem) : Mem := sR (mm70 M) 62 2 (some 65)
theorem zr71 {M : Mem} (hz : Zc 0 M) : Zc 66 (mm71 M) := ((zr70 hz).mono (by decide)).sR (by decide) (by decide)
def mm72 (M : Mem) : Mem := sI (mm71 M) 62 6 (-1 : Int32)
theorem zr72 {M : Mem} (hz : Zc 0 M) : Zc 66 (mm72 M) := ((zr71 hz).mono (by decide)).sI (by decide)
def mm73 (M : Mem) : Mem := sR (mm72 M) 62 7 (some 66)
theorem zr73 {M : Mem} (hz : Zc 0 M) : Zc 67 (mm73 M) := ((zr72 hz).mono (by decide)).sR (by decide) (by decide)
def mm74 (M : Mem) : Mem := sR (mm73 M) 62 8 (some 67)
theorem zr74 {M : Mem} (hz : Zc 0 M) : Zc 68 (mm74 M) := ((zr73 hz).mono (by decide)).sR (by decide) (by decide)
def mm75 (M : Mem) : Mem := sR (mm74 M) 36 4 (some 62)
theorem zr75 {M : Mem} (hz : Zc 0 M) : Zc 68 (mm75 M) := ((zr74 hz).mono (by decide)).sR (by decide) (by decide)
def mm76 (M : Mem) : Mem := sR (mm75 M) 68 0 (some 69)
theorem zr76 {M : Mem} (hz : Zc 0 M) : Zc 70 (mm76 M) := ((zr75 hz).mono (by decide)).sR (by decide) (by decide)
def mm77 (M : Mem) : Mem := sR (mm76 M) 68 1 (some 70)
theorem zr77 {M : Mem} (hz : Zc 0 M) : Zc 71 (mm77 M) := ((zr76 hz).mono (by decide)).sR (by decide) (by decide)
def mm78 (M : Mem) : Mem := sR (mm77 M) 68 2 (some 71)
theorem zr78 {M : Mem} (hz : Zc 0 M) : Zc 72 (mm78 M) := ((zr77 hz).mono (by decide)).sR (by decide) (by decide)
def mm79 (M : Mem) : Mem := sI (mm78 M) 68 6 (-1 : Int32)
theorem zr79 {M : Mem} (hz : Zc 0 M) : Zc 72 (mm79 M) := ((zr78 hz).mono (by decide)).sI (by decide)
def mm80 (M : Mem) : Mem := sR (mm79 M) 68 7 (some 72)
theorem zr80 {M : Mem} (hz : Zc 0 M) : Zc 73 (mm80 M) := ((zr79 hz).mono (by decide)).sR (by decide) (by decide)
def mm81 (M : Mem) : Mem := sR (mm80 M) 68 8 (some 73)
theorem zr81 {M : Mem} (hz : Zc 0 M) : Zc 74 (mm81 M) := ((zr80 hz).mono (by decide)).sR (by decide) (by decide)
def mm82 (M : Mem) : Mem := sR (mm81 M) 36 5 (some 68)
theorem zr82 {M : Mem} (hz : Zc 0 M) : Zc 74 (mm82 M) := ((zr81 hz).mono (by decide)).sR (by decide) (by decide)
def mm83 (M : Mem) : Mem := sR (mm82 M) 74 0 (some 75)
theorem zr83 {M : Mem} (hz : Zc 0 M) : Zc 76 (mm83 M) := ((zr82 hz).mono (by decide)).sR (by decide) (by decide)
def mm84 (M : Mem) : Mem := sR (mm83 M) 74 1 (some 76)
theorem zr84 {M : Mem} (hz : Zc 0 M) : Zc 77 (mm84 M) := ((zr83 hz).mono (by decide)).sR (by decide) (by decide)
def mm85 (M : Mem) : Mem := sR (mm84 M) 74 2 (some 77)
theorem zr85 {M : Mem} (hz : Zc 0 M) : Zc 78 (mm85 M) := ((zr84 hz).mono (by decide)).sR (by decide) (by decide)
def mm86 (M : Mem) : Mem := sI (mm85 M) 74 6 (-1 : Int32)
theorem zr86 {M : Mem} (hz : Zc 0 M) : Zc 78 (mm86 M) := ((zr85 hz).mono (by decide)).sI (by decide)
def mm87 (M : Mem) : Mem := sR (mm86 M) 74 7 (some 78)
theorem zr87 {M : Mem} (hz : Zc 0 M) : Zc 79 (mm87 M) := ((zr86 hz).mono (by decide)).sR (by decide) (by decide)
def mm88 (M : Mem) : Mem := sR (mm87 M) 74 8 (some 79)
theorem zr88 {M : Mem} (hz : Zc 0 M) : Zc 80 (mm88 M) := ((zr87 hz).mono (by decide)).sR (by decide) (by decide)
def mm89 (M : Mem) : Mem := sR (mm88 M) 36 6 (some 74)
theorem zr89 {M : Mem} (hz : Zc 0 M) : Zc 80 (mm89 M) := ((zr88 hz).mono (by decide)).sR (by decide) (by decide)
def mm90 (M : Mem) : Mem := sR (mm89 M) 80 0 (some 81)
theorem zr90 {M : Mem} (hz : Zc 0 M) : Zc 82 (mm90 M) := ((zr89 hz).mono (by decide)).sR (by decide) (by decide)
def mm91 (M : Mem) : Mem := sR (mm90 M) 80 1 (some 82)
theorem zr91 {M : Mem} (hz : Zc 0 M) : Zc 83 (mm91 M) := ((zr90 hz).mono (by decide)).sR (by decide) (by decide)
def mm92 (M : Mem) : Mem := sR (mm91 M) 80 2 (some 83)
theorem zr92 {M : Mem} (hz : Zc 0 M) : Zc 84 (mm92 M) := ((zr91 hz).mono (by decide)).sR (by decide) (by decide)
def mm93 (M : Mem) : Mem := sI (mm92 M) 80 6 (-1 : Int32)
theorem zr93 {M : Mem} (hz : Zc 0 M) : Zc 84 (mm93 M) := ((zr92 hz).mono (by decide)).sI (by decide)
def mm94 (M : Mem) : Mem := sR (mm93 M) 80 7 (some 84)
theorem zr94 {M : Mem} (hz : Zc 0 M) : Zc 85 (mm94 M) := ((zr93 hz).mono (by decide)).sR (by decide) (by decide)
def mm95 (M : Mem) : Mem := sR (mm94 M) 80 8 (some 85)
theorem zr95 {M : Mem} (hz : Zc 0 M) : Zc 86 (mm95 M) := ((zr94 hz).mono (by decide)).sR (by decide) (by decide)
def mm96 (M : Mem) : Mem := sR (mm95 M) 37 0 (some 80)
theorem zr96 {M : Mem} (hz : Zc 0 M) : Zc 86 (mm96 M) := ((zr95 hz).mono (by decide)).sR (by decide) (by decide)
def mm97 (M : Mem) : Mem := sR (mm96 M) 86 0 (some 87)
theorem zr97 {M : Mem} (hz : Zc 0 M) : Zc 88 (mm97 M) := ((zr96 hz).mono (by decide)).sR (by decide) (by decide)
def mm98 (M : Mem) : Mem := sR (mm97 M) 86 1 (some 88)
theorem zr98 {M : Mem} (hz : Zc 0 M) : Zc 89 (mm98 M) := ((zr97 hz).mono (by decide)).sR (by decide) (by decide)
def mm99 (M : Mem) : Mem := sR (mm98 M) 86 2 (some 89)
theorem zr99 {M : Mem} (hz : Zc 0 M) : Zc 90 (mm99 M) := ((zr98 hz).mono (by decide)).sR (by decide) (by decide)
def mm100 (M : Mem) : Mem := sI (mm99 M) 86 6 (-1 : Int32)
theorem zr100 {M : Mem} (hz : Zc 0 M) : Zc 90 (mm100 M) := ((zr99 hz).mono (by decide)).sI (by decide)
def mm101 (M : Mem) : Mem := sR (mm100 M) 86 7 (some 90)
theorem zr101 {M : Mem} (hz : Zc 0 M) : Zc 91 (mm101 M) := ((zr100 hz).mono (by decide)).sR (by decide) (by decide)
def mm102 (M : Mem) : Mem := sR (mm101 M) 86 8 (some 91)
theorem zr102 {M : Mem} (hz : Zc 0 M) : Zc 92 (mm102 M) := ((zr101 hz).mono (by decide)).sR (by decide) (by decide)
def mm103 (M : Mem) : Mem := sR (mm102 M) 37 1 (some 86)
theorem zr103 {M : Mem} (hz : Zc 0 M) : Zc 92 (mm103 M) := ((zr102 hz).mono (by decide)).sR (by decide) (by decide)
def mm104 (M : Mem) : Mem := sR (mm103 M) 0 4 (some 35)
theorem zr104 {M : Mem} (hz : Zc 0 M) : Zc 92 (mm104 M) := ((zr103 hz).mono (by decide)).sR (by decide) (by decide)
def mm105 (M : Mem) : Mem := sR (mm104 M) 0 5 (some 16)
theorem zr105 {M : Mem} (hz : Zc 0 M) : Zc 92 (mm105 M) := ((zr104 hz).mono (by decide)).sR (by decide) (by decide)
def mm106 (M : Mem) : Mem := sR (mm105 M) 92 1 (some 93)
theorem zr106 {M : Mem} (hz : Zc 0 M) : Zc 94 (mm106 M) := ((zr105 hz).mono (by decide)).sR (by decide) (by decide)
def mm107 (M : Mem) : Mem := sR (mm106 M) 92 2 (some 94)
theorem zr107 {M : Mem} (hz : Zc 0 M) : Zc 95 (mm107 M) := ((zr106 hz).mono (by decide)).sR (by decide) (by decide)
def mm108 (M : Mem) : Mem := sR (mm107 M) 92 3 (some 95)
theorem zr108 {M : Mem} (hz : Zc 0 M) : Zc 96 (mm108 M) := ((zr107 hz).mono (by decide)).sR (by decide) (by decide)
def mm109 (M : Mem) : Mem := sR (mm108 M) 92 0 (some 3)
theorem zr109 {M : Mem} (hz : Zc 0 M) : Zc 96 (mm109 M) := ((zr108 hz).mono (by decide)).sR (by decide) (by decide)
def mm110 (M : Mem) : Mem := sR (mm109 M) 0 6 (some 92)
theorem zr110 {M : Mem} (hz : Zc 0 M) : Zc 96 (mm110 M) := ((zr109 hz).mono (by decide)).sR (by decide) (by decide)
def mm111 (M : Mem) : Mem := sR (mm110 M) 96 3 (some 97)
theorem zr111 {M : Mem} (hz : Zc 0 M) : Zc 98 (mm111 M) := ((zr110 hz).mono (by decide)).sR (by decide) (by decide)
def mm112 (M : Mem) : Mem := sR (mm111 M) 96 4 (some 98)
theorem zr112 {M : Mem} (hz : Zc 0 M) : Zc 99 (mm112 M) := ((zr111 hz).mono (by decide)).sR (by decide) (by decide)
def mm113 (M : Mem) : Mem := sI (mm112 M) 96 5 (-1 : Int32)
theorem zr113 {M : Mem} (hz : Zc 0 M) : Zc 99 (mm113 M) := ((zr112 hz).mono (by decide)).sI (by decide)
def mm114 (M : Mem) : Mem := sI (mm113 M) 96 6 (-1 : Int32)
theorem zr114 {M : Mem} (hz : Zc 0 M) : Zc 99 (mm114 M) := ((zr113 hz).mono (by decide)).sI (by decide)
def mm115 (M : Mem) : Mem := sR (mm114 M) 96 8 (some 99)
theorem zr115 {M : Mem} (hz : Zc 0 M) : Zc 100 (mm115 M) := ((zr114 hz).mono (by decide)).sR (by decide) (by decide)
def mm116 (M : Mem) : Mem := sR (mm115 M) 96 9 (some 100)
theorem zr116 {M : Mem} (hz : Zc 0 M) : Zc 101 (mm116 M) := ((zr115 hz).mono (by decide)).sR (by decide) (by decide)
def mm117 (M : Mem) : Mem := sR (mm116 M) 96 10 (some 101)
theorem zr117 {M : Mem} (hz : Zc 0 M) : Zc 102 (mm117 M) := ((zr116 hz).mono (by decide)).sR (by decide) (by decide)
def mm118 (M : Mem) : Mem := sR (mm117 M) 96 0 (some 3)
theorem zr118 {M : Mem} (hz : Zc 0 M) : Zc 102 (mm118 M) := ((zr117 hz).mono (by decide)).sR (by decide) (by decide)
def mm119 (M : Mem) : Mem := sR (mm118 M) 96 1 (some 10)
theorem zr119 {M : Mem} (hz : Zc 0 M) : Zc 102 (mm119 M) := ((zr118 hz).mono (by decide)).sR (by decide) (by decide)
def mm120 (M : Mem) : Mem := sR (mm119 M) 96 2 (some 16)
theorem zr120 {M : Mem} (hz : Zc 0 M) : Zc 102 (mm120 M) := ((zr119 hz).mono (by decide)).sR (by decide) (by decide)
def mm121 (M : Mem) : Mem := sR (mm120 M) 0 7 (some 96)
theorem zr121 {M : Mem} (hz : Zc 0 M) : Zc 102 (mm121 M) := ((zr120 hz).mono (by decide)).sR (by decide) (by decide)
def mm122 (M : Mem) : Mem := sR (mm121 M) 102 2 (some 103)
theorem zr122 {M : Mem} (hz : Zc 0 M) : Zc 104 (mm122 M) := ((zr121 hz).mono (by decide)).sR (by decide) (by decide)
def mm123 (M : Mem) : Mem := sR (mm122 M) 102 0 (some 3)
theorem zr123 {M : Mem} (hz : Zc 0 M) : Zc 104 (mm123 M) := ((zr122 hz).mono (by decide)).sR (by decide) (by decide)
def mm124 (M : Mem) : Mem := sR (mm123 M) 102 1 (some 10)
theorem zr124 {M : Mem} (hz : Zc 0 M) : Zc 104 (mm124 M) := ((zr123 hz).mono (by decide)).sR (by decide) (by decide)
def mm125 (M : Mem) : Mem := sR (mm124 M) 0 8 (some 102)
theorem zr125 {M : Mem} (hz : Zc 0 M) : Zc 104 (mm125 M) := ((zr124 hz).mono (by decide)).sR (by decide) (by decide)
def mm126 (M : Mem) : Mem := sR (mm125 M) 104 0 (some 3)
theorem zr126 {M : Mem} (hz : Zc 0 M) : Zc 105 (mm126 M) := ((zr125 hz).mono (by decide)).sR (by decide) (by decide)
def mm127 (M : Mem) : Mem := sR (mm126 M) 0 9 (some 104)
theorem zr127 {M : Mem} (hz : Zc 0 M) : Zc 105 (mm127 M) := ((zr126 hz).mono (by decide)).sR (by decide) (by decide)
def mm128 (M : Mem) : Mem := sR (mm127 M) 105 0 (some 106)
theorem zr128 {M : Mem} (hz : Zc 0 M) : Zc 107 (mm128 M) := ((zr127 hz).mono (by decide)).sR (by decide) (by decide)
def mm129 (M : Mem) : Mem := sR (mm128 M) 0 10 (some 105)
theorem zr129 {M : Mem} (hz : Zc 0 M) : Zc 107 (mm129 M) := ((zr128 hz).mono (by decide)).sR (by decide) (by decide)
def mm130 (M : Mem) : Mem := sR (mm129 M) 0 11 (some 107)
theorem zr130 {M : Mem} (hz : Zc 0 M) : Zc 108 (mm130 M) := ((zr129 hz).mono (by decide)).sR (by decide) (by decide)
set_option maxRecDepth 100000 in
theorem k_X2_init_1 {Γ : WC} {M : Mem} (hG : HG Γ) (hov : va_AO "DecisionChain$Settings" (wU Γ)) (hz : Zc 0 M) : CtD Γ KT KT yX2_init cX2_init 1 none (rmL 1 1 1200) (lC 2) (lC 3) [.inr 1] M none (mm1 M) := by
  refine mkD hG (own := RX2) rfl (by decide) (fun _ => Nat.le_of_ble_eq_true rfl) (fun ad0 X C hI0 E => ?_)
  have hI := hI0 rfl
  have hag : agr (lC 2) ad0 ad0 := agr.rfl
  change G (gc Γ KT ad0 (lC 2)) X M 0 0 [some (.ref (ad0 1))] [] 0
  refine x_aload_n (C.gc KR.tt ad0 (lC 2)) rfl rfl (dkAt dk_X2_init 0 rfl) 1 rfl ?_
  refine d_obj C lo_RX2_3 mi_obj cw_obj ⟨by decide, by decide⟩ (by decide) (dkAt dk_X2_init 1 rfl) 4 rfl ?_
  refine x_aload_n (C.gc KR.tt ad0 (lC 2)) rfl rfl (dkAt dk_X2_init 2 rfl) 5 rfl ?_
  refine x_sipush (C.gc KR.tt ad0 (lC 2)) (v := (1200 : Int32)) (by decide) (dkAt dk_X2_init 3 rfl) 8 rfl ?_
  refine d_newaC C (ty := .byte) (L := [some (.inr 1)]) (st := [.inr 1]) (by decide) rfl (by decide) rfl ka_byte rfl (fun _ => rfl) ⟨by decide, by decide, by decide⟩ (hz.mono (by decide)) ⟨by decide, by decide⟩ hag (by decide) rfl rfl (svC (by decide)) (svD (by decide)) (dkAt dk_X2_init 4 rfl) 10 rfl (cs1 := 1) (sl1 := 1200) rfl rfl (fun ad hag => ?_)
  change G (gc Γ KT ad (lC 3)) X M 1 1200 [some (.ref (ad 1))] [.ref (ad 2), .ref (ad 1)] 10
  refine x_putFR (C.gc KR.tt ad (lC 3)) hI (kk := some) (rM := (mm1 M)) (fun _ _ => trivial) pkf_RX2_9 ⟨_, rfl⟩ (oc (by decide) (by decide) rfl) (dkAt dk_X2_init 5 rfl) 13 rfl rfl (fun M1 hM => ?_)
  cases hM
  exact d_vret (K9 := KT) C E hag (fun h => h) (by decide) (by decide) (dkAt dk_X2_init 6 rfl)
set_option maxRecDepth 100000 in
theorem k_X0_init_3 {Γ : WC} {M : Mem} (hG : HG Γ) (hov : va_AO "DecisionChain$Settings" (wU Γ)) (hz : Zc 0 M) : CtD Γ KT KT yX0_init cX0_init 1 none (rmL 1 6 312) (lC 4) (lC 10) [.inr 3] (mm1 M) none (mm7 M) := by
  refine mkD hG (own := RX0) rfl (by decide) (fun _ => Nat.le_of_ble_eq_true rfl) (fun ad0 X C hI0 E => ?_)
  have hI := hI0 rfl
  have hag : agr (lC 4) ad0 ad0 := agr.rfl
  change G (gc Γ KT ad0 (lC 4)) X (mm1 M) 0 0 [some (.ref (ad0 3))] [] 0
  refine x_aload_n (C.gc KR.tt ad0 (lC 4)) rfl rfl (dkAt dk_X0_init 0 rfl) 1 rfl ?_
  refine d_obj C lo_RX0_3 mi_obj cw_obj ⟨by decide, by decide⟩ (by decide) (dkAt dk_X0_init 1 rfl) 4 rfl ?_
  refine x_aload_n (C.gc KR.tt ad0 (lC 4)) rfl rfl (dkAt dk_X0_init 2 rfl) 5 rfl ?_
  refine x_bipush (C.gc KR.tt ad0 (lC 4)) (v := (6 : Int32)) (by decide) (dkAt dk_X0_init 3 rfl) 7 rfl ?_
  refine d_newaC C (ty := .int) (L := [some (.inr 3)]) (st := [.inr 3]) (by decide) rfl (by decide) rfl ka_int rfl (fun _ => rfl) ⟨by decide, by decide, by decide⟩ ((zr1 hz).mono (by decide)) ⟨by decide, by decide⟩ hag (by decide) rfl rfl (svC (by decide)) (svD (by decide)) (dkAt dk_X0_init 4 rfl) 9 rfl (cs1 := 1) (sl1 := 6) rfl rfl (fun ad hag => ?_)
  change G (gc Γ KT ad (lC 5)) X (mm1 M) 1 6 [some (.ref (ad 3))] [.ref (ad 4), .ref (ad 3)] 9
  refine x_putFR (C.gc KR.tt ad (lC 5)) hI (kk := some) (rM := (mm2 M)) (fun _ _ => trivial) pkf_RX0_9 ⟨_, rfl⟩ (oc (by decide) (by decide) rfl) (dkAt dk_X0_init 5 rfl) 12 rfl rfl (fun M1 hM => ?_)
  cases hM
  refine x_aload_n (C.gc KR.tt ad (lC 5)) rfl rfl (dkAt dk_X0_init 6 rfl) 13 rfl ?_
  refine x_bipush (C.gc KR.tt ad (lC 5)) (v := (18 : Int32)) (by decide) (dkAt dk_X0_init 7 rfl) 15 rfl ?_
  refine d_newaC C (ty := .int) (L := [some (.inr 3)]) (st := [.inr 3]) (by decide) rfl (by decide) rfl ka_int rfl (fun _ => rfl) ⟨by decide, by decide, by decide⟩ ((zr2 hz).mono (by decide)) ⟨by decide, by decide⟩ hag (by decide) rfl rfl (svC (by decide)) (svD (by decide)) (dkAt dk_X0_init 8 rfl) 17 rfl (cs1 := 2) (sl1 := 24) rfl rfl (fun ad hag => ?_)
  change G (gc Γ KT ad (lC 6)) X (mm2 M) 2 24 [some (.ref (ad 3))] [.ref (ad 5), .ref (ad 3)] 17
  refine x_putFR (C.gc KR.tt ad (lC 6)) hI (kk := some) (rM := (mm3 M)) (fun _ _ => trivial) pkf_RX0_15 ⟨_, rfl⟩ (oc (by decide) (by decide) rfl) (dkAt dk_X0_init 9 rfl) 20 rfl rfl (fun M1 hM => ?_)
  cases hM
  refine x_aload_n (C.gc KR.tt ad (lC 6)) rfl rfl (dkAt dk_X0_init 10 rfl) 21 rfl ?_
  refine x_bipush (C.gc KR.tt ad (lC 6)) (v := (54 : Int32)) (by decide) (dkAt dk_X0_init 11 rfl) 23 rfl ?_
  refine d_newaC C (ty := .int) (L := [some (.inr 3)]) (st := [.inr 3]) (by decide) rfl (by decide) rfl ka_int rfl (fun _ => rfl) ⟨by decide, by decide, by decide⟩ ((zr3 hz).mono (by decide)) ⟨by decide, by decide⟩ hag (by decide) rfl rfl (svC (by decide)) (svD (by decide)) (dkAt dk_X0_init 12 rfl) 25 rfl (cs1 := 3) (sl1 := 78) rfl rfl (fun ad hag => ?_)
  change G (gc Γ KT ad (lC 7)) X (mm3 M) 3 78 [some (.ref (ad 3))] [.ref (ad 6), .ref (ad 3)] 25
  refine x_putFR (C.gc KR.tt ad (lC 7)) hI (kk := some) (rM := (mm4 M)) (fun _ _ => trivial) pkf_RX0_18 ⟨_, rfl⟩ (oc (by decide) (by decide) rfl) (dkAt dk_X0_init 13 rfl) 28 rfl rfl (fun M1 hM => ?_)
  cases hM
  refine x_aload_n (C.gc KR.tt ad (lC 7)) rfl rfl (dkAt dk_X0_init 14 rfl) 29 rfl ?_
  refine x_bipush (C.gc KR.tt ad (lC 7)) (v := (108 : Int32)) (by decide) (dkAt dk_X0_init 15 rfl) 31 rfl ?_
  refine d_newaC C (ty := .int) (L := [some (.inr 3)]) (st := [.inr 3]) (by decide) rfl (by decide) rfl ka_int rfl (fun _ => rfl) ⟨by decide, by decide, by decide⟩ ((zr4 hz).mono (by decide)) ⟨by decide, by decide⟩ hag (by decide) rfl rfl (svC (by decide)) (svD (by decide)) (dkAt dk_X0_init 16 rfl) 33 rfl (cs1 := 4) (sl1 := 186) rfl rfl (fun ad hag => ?_)
  change G (gc Γ KT ad (lC 8)) X (mm4 M) 4 186 [some (.ref (ad 3))] [.ref (ad 7), .ref (ad 3)] 33
  refine x_putFR (C.gc KR.tt ad (lC 8)) hI (kk := some) (rM := (mm5 M)) (fun _ _ => trivial) pkf_RX0_21 ⟨_, rfl⟩ (oc (by decide) (by decide) rfl) (dkAt dk_X0_init 17 rfl) 36 rfl rfl (fun M1 hM => ?_)
  cases hM
  refine x_aload_n (C.gc KR.tt ad (lC 8)) rfl rfl (dkAt dk_X0_init 18 rfl) 37 rfl ?_
  refine x_bipush (C.gc KR.tt ad (lC 8)) (v := (108 : Int32)) (by decide) (dkAt dk_X0_init 19 rfl) 39 rfl ?_
  refine d_newaC C (ty := .int) (L := [some (.inr 3)]) (st := [.inr 3]) (by decide) rfl (by decide) rfl ka_int rfl (fun _ => rfl) ⟨by decide, by decide, by decide⟩ ((zr5 hz).mono (by decide)) ⟨by decide, by decide⟩ hag (by decide) rfl rfl (svC (by decide)) (svD (by decide)) (dkAt dk_X0_init 20 rfl) 41 rfl (cs1 := 5) (sl1 := 294) rfl rfl (fun ad hag => ?_)
  change G (gc Γ KT ad (lC 9)) X (mm5 M) 5 294 [some (.ref (ad 3))] [.ref (ad 8), .ref (ad 3)] 41
  refine x_putFR (C.gc KR.tt ad (lC 9)) hI (kk := some) (rM := (mm6 M)) (fun _ _ => trivial) pkf_RX0_24 ⟨_, rfl⟩ (oc (by decide) (by decide) rfl) (dkAt dk_X0_init 21 rfl) 44 rfl rfl (fun M1 hM => ?_)
  cases hM
  refine x_aload_n (C.gc KR.tt ad (lC 9)) rfl rfl (dkAt dk_X0_init 22 rfl) 45 rfl ?_
  refine x_bipush (C.gc KR.tt ad (lC 9)) (v := (18 : Int32)) (by decide) (dkAt dk_X0_init 23 rfl) 47 rfl ?_
  refine d_newaC C (ty := .int) (L := [some (.inr 3)]) (st := [.inr 3]) (by decide) rfl (by decide) rfl ka_int rfl (fun _ => rfl) ⟨by decide, by decide, by decide⟩ ((zr6 hz).mono (by decide)) ⟨by decide, by decide⟩ hag (by decide) rfl rfl (svC (by decide)) (svD (by decide)) (dkAt dk_X0_init 24 rfl) 49 rfl (cs1 := 6) (sl1 := 312) rfl rfl (fun ad hag => ?_)
  change G (gc Γ KT ad (lC 10)) X (mm6 M) 6 312 [some (.ref (ad 3))] [.ref (ad 9), .ref (ad 3)] 49
  refine x_putFR (C.gc KR.tt ad (lC 10)) hI (kk := some) (rM := (mm7 M)) (fun _ _ => trivial) pkf_RX0_27 ⟨_, rfl⟩ (oc (by decide) (by decide) rfl) (dkAt dk_X0_init 25 rfl) 52 rfl rfl (fun M1 hM => ?_)
  cases hM
  exact d_vret (K9 := KT) C E hag (fun h => h) (by decide) (by decide) (dkAt dk_X0_init 26 rfl)
set_option maxRecDepth 100000 in
theorem k_X7_init_10 {Γ : WC} {M : Mem} (hG : HG Γ) (hov : va_AO "DecisionChain$Settings" (wU Γ)) (hz : Zc 0 M) : CtD Γ KT KT yX7_init cX7_init 1 none (rmL 1 5 38) (lC 11) (lC 16) [.inr 10] (mm7 M) none (mm13 M) := by
  refine mkD hG (own := RX7) rfl (by decide) (fun _ => Nat.le_of_ble_eq_true rfl) (fun ad0 X C hI0 E => ?_)
  have hI := hI0 rfl
  have hag : agr (lC 11) ad0 ad0 := agr.rfl
  change G (gc Γ KT ad0 (lC 11)) X (mm7 M) 0 0 [some (.ref (ad0 10))] [] 0
  refine x_aload_n (C.gc KR.tt ad0 (lC 11)) rfl rfl (dkAt dk_X7_init 0 rfl) 1 rfl ?_
  refine d_obj C lo_RX7_3 mi_obj cw_obj ⟨by decide, by decide⟩ (by decide) (dkAt dk_X7_init 1 rfl) 4 rfl ?_
  refine x_aload_n (C.gc KR.tt ad0 (lC 11)) rfl rfl (dkAt dk_X7_init 2 rfl) 5 rfl ?_
  refine x_bipush (C.gc KR.tt ad0 (lC 11)) (v := (18 : Int32)) (by decide) (dkAt dk_X7_init 3 rfl) 7 rfl ?_
  refine d_newaC C (ty := .int) (L := [some (.inr 10)]) (st := [.inr 10]) (by decide) rfl (by decide) rfl ka_int rfl (fun _ => rfl) ⟨by decide, by decide, by decide⟩ ((zr7 hz).mono (by decide)) ⟨by decide, by decide⟩ hag (by decide) rfl rfl (svC (by decide)) (svD (by decide)) (dkAt dk_X7_init 4 rfl) 9 rfl (cs1 := 1) (sl1 := 18) rfl rfl (fun ad hag => ?_)
  change G (gc Γ KT ad (lC 12)) X (mm7 M) 1 18 [some (.ref (ad 10))] [.ref (ad 11), .ref (ad 10)] 9
  refine x_putFR (C.gc KR.tt ad (lC 12)) hI (kk := some) (rM := (mm8 M)) (fun _ _ => trivial) pkf_RX7_9 ⟨_, rfl⟩ (oc (by decide) (by decide) rfl) (dkAt dk_X7_init 5 rfl) 12 rfl rfl (fun M1 hM => ?_)
  cases hM
  refine x_aload_n (C.gc KR.tt ad (lC 12)) rfl rfl (dkAt dk_X7_init 6 rfl) 13 rfl ?_
  refine x_bipush (C.gc KR.tt ad (lC 12)) (v := (6 : Int32)) (by decide) (dkAt dk_X7_init 7 rfl) 15 rfl ?_
  refine d_newaC C (ty := .int) (L := [some (.inr 10)]) (st := [.inr 10]) (by decide) rfl (by decide) rfl ka_int rfl (fun _ => rfl) ⟨by decide, by decide, by decide⟩ ((zr8 hz).mono (by decide)) ⟨by decide, by decide⟩ hag (by decide) rfl rfl (svC (by decide)) (svD (by decide)) (dkAt dk_X7_init 8 rfl) 17 rfl (cs1 := 2) (sl1 := 24) rfl rfl (fun ad hag => ?_)
  change G (gc Γ KT ad (lC 13)) X (mm8 M) 2 24 [some (.ref (ad 10))] [.ref (ad 12), .ref (ad 10)] 17
  refine x_putFR (C.gc KR.tt ad (lC 13)) hI (kk := some) (rM := (mm9 M)) (fun _ _ => trivial) pkf_RX7_15 ⟨_, rfl⟩ (oc (by decide) (by decide) rfl) (dkAt dk_X7_init 9 rfl) 20 rfl rfl (fun M1 hM => ?_)
  cases hM
  refine x_aload_n (C.gc KR.tt ad (lC 13)) rfl rfl (dkAt dk_X7_init 10 rfl) 21 rfl ?_
  refine x_iconst (C.gc KR.tt ad (lC 13)) (v := (3 : Int32)) (by decide) (dkAt dk_X7_init 11 rfl) 22 rfl ?_
  refine d_newaC C (ty := .int) (L := [some (.inr 10)]) (st := [.inr 10]) (by decide) rfl (by decide) rfl ka_int rfl (fun _ => rfl) ⟨by decide, by decide, by decide⟩ ((zr9 hz).mono (by decide)) ⟨by decide, by decide⟩ hag (by decide) rfl rfl (svC (by decide)) (svD (by decide)) (dkAt dk_X7_init 12 rfl) 24 rfl (cs1 := 3) (sl1 := 27) rfl rfl (fun ad hag => ?_)
  change G (gc Γ KT ad (lC 14)) X (mm9 M) 3 27 [some (.ref (ad 10))] [.ref (ad 13), .ref (ad 10)] 24
  refine x_putFR (C.gc KR.tt ad (lC 14)) hI (kk := some) (rM := (mm10 M)) (fun _ _ => trivial) pkf_RX7_18 ⟨_, rfl⟩ (oc (by decide) (by decide) rfl) (dkAt dk_X7_init 13 rfl) 27 rfl rfl (fun M1 hM => ?_)
  cases hM
  refine x_aload_n (C.gc KR.tt ad (lC 14)) rfl rfl (dkAt dk_X7_init 14 rfl) 28 rfl ?_
  refine x_iconst (C.gc KR.tt ad (lC 14)) (v := (-1 : Int32)) (by decide) (dkAt dk_X7_init 15 rfl) 29 rfl ?_
  refine x_putI (C.gc KR.tt ad (lC 14)) (kk := some) (rM := (mm11 M)) pk_RX7_21 ⟨_, rfl⟩ (oc (by decide) (by decide) rfl) (dkAt dk_X7_init 16 rfl) 32 rfl rfl (fun M1 hM => ?_)
  cases hM
  refine x_aload_n (C.gc KR.tt ad (lC 14)) rfl rfl (dkAt dk_X7_init 17 rfl) 33 rfl ?_
  refine x_bipush (C.gc KR.tt ad (lC 14)) (v := (6 : Int32)) (by decide) (dkAt dk_X7_init 18 rfl) 35 rfl ?_
  refine d_newaC C (ty := .int) (L := [some (.inr 10)]) (st := [.inr 10]) (by decide) rfl (by decide) rfl ka_int rfl (fun _ => rfl) ⟨by decide, by decide, by decide⟩ ((zr11 hz).mono (by decide)) ⟨by decide, by decide⟩ hag (by decide) rfl rfl (svC (by decide)) (svD (by decide)) (dkAt dk_X7_init 19 rfl) 37 rfl (cs1 := 4) (sl1 := 33) rfl rfl (fun ad hag => ?_)
  change G (gc Γ KT ad (lC 15)) X (mm11 M) 4 33 [some (.ref (ad 10))] [.ref (ad 14), .ref (ad 10)] 37
  refine x_putFR (C.gc KR.tt ad (lC 15)) hI (kk := some) (rM := (mm12 M)) (fun _ _ => trivial) pkf_RX7_25 ⟨_, rfl⟩ (oc (by decide) (by decide) rfl) (dkAt dk_X7_init 20 rfl) 40 rfl rfl (fun M1 hM => ?_)
  cases hM
  refine x_aload_n (C.gc KR.tt ad (lC 15)) rfl rfl (dkAt dk_X7_init 21 rfl) 41 rfl ?_
  refine x_iconst (C.gc KR.tt ad (lC 15)) (v := (5 : Int32)) (by decide) (dkAt dk_X7_init 22 rfl) 42 rfl ?_
  refine d_newaC C (ty := .int) (L := [some (.inr 10)]) (st := [.inr 10]) (by decide) rfl (by decide) rfl ka_int rfl (fun _ => rfl) ⟨by decide, by decide, by decide⟩ ((zr12 hz).mono (by decide)) ⟨by decide, by decide⟩ hag (by decide) rfl rfl (svC (by decide)) (svD (by decide)) (dkAt dk_X7_init 23 rfl) 44 rfl (cs1 := 5) (sl1 := 38) rfl rfl (fun ad hag => ?_)
  change G (gc Γ KT ad (lC 16)) X (mm12 M) 5 38 [some (.ref (ad 10))] [.ref (ad 15), .ref (ad 10)] 44
  refine x_putFR (C.gc KR.tt ad (lC 16)) hI (kk := some) (rM := (mm13 M)) (fun _ _ => trivial) pkf_RX7_28 ⟨_, rfl⟩ (oc (by decide) (by decide) rfl) (dkAt dk_X7_init 24 rfl) 47 rfl rfl (fun M1 hM => ?_)
  cases hM
  exact d_vret (K9 := KT) C E hag (fun h => h) (by decide) (by decide) (dkAt dk_X7_init 25 rfl)
set_option maxRecDepth 100000 in
theorem k_X1_init_16 {Γ : WC} {M : Mem} (hG : HG Γ) (hov : va_AO "DecisionChain$Settings" (wU Γ)) (hz : Zc 0 M) : CtD Γ KT KT yX1_init cX1_init 2 none (rmL 1 4 144) (lC 17) (lC 21) [.inr 16, .inr 3] (mm13 M) none (mm18 M) := by
  refine mkD hG (own := RX1) rfl (by decide) (fun _ => Nat.le_of_ble_eq_true rfl) (fun ad0 X C hI0 E => ?_)
  have hI := hI0 rfl
  have hag : agr (lC 17) ad0 ad0 := agr.rfl
  change G (gc Γ KT ad0 (lC 17)) X (mm13 M) 0 0 [some (.ref (ad0 16)), some (.ref (ad0 3))] [] 0
  refine x_aload_n (C.gc KR.tt ad0 (lC 17)) rfl rfl (dkAt dk_X1_init 0 rfl) 1 rfl ?_
  refine d_obj C lo_RX1_3 mi_obj cw_obj ⟨by decide, by decide⟩ (by decide) (dkAt dk_X1_init 1 rfl) 4 rfl ?_
  refine x_aload_n (C.gc KR.tt ad0 (lC 17)) rfl rfl (dkAt dk_X1_init 2 rfl) 5 rfl ?_
  refine x_bipush (C.gc KR.tt ad0 (lC 17)) (v := (36 : Int32)) (by decide) (dkAt dk_X1_init 3 rfl) 7 rfl ?_
  refine d_newaC C (ty := .long) (L := [some (.inr 16), some (.inr 3)]) (st := [.inr 16]) (by decide) rfl (by decide) rfl ka_long rfl (fun _ => rfl) ⟨by decide, by decide, by decide⟩ ((zr13 hz).mono (by decide)) ⟨by decide, by decide⟩ hag (by decide) rfl rfl (svC (by decide)) (svD (by decide)) (dkAt dk_X1_init 4 rfl) 9 rfl (cs1 := 1) (sl1 := 36) rfl rfl (fun ad hag => ?_)
  change G (gc Γ KT ad (lC 18)) X (mm13 M) 1 36 [some (.ref (ad 16)), some (.ref (ad 3))] [.ref (ad 17), .ref (ad 16)] 9
  refine x_putFR (C.gc KR.tt ad (lC 18)) hI (kk := some) (rM := (mm14 M)) (fun _ _ => trivial) pkf_RX1_9 ⟨_, rfl⟩ (oc (by decide) (by decide) rfl) (dkAt dk_X1_init 5 rfl) 12 rfl rfl (fun M1 hM => ?_)
  cases hM
  refine x_aload_n (C.gc KR.tt ad (lC 18)) rfl rfl (dkAt dk_X1_init 6 rfl) 13 rfl ?_
  refine x_bipush (C.gc KR.tt ad (lC 18)) (v := (36 : Int32)) (by decide) (dkAt dk_X1_init 7 rfl) 15 rfl ?_
  refine d_newaC C (ty := .long) (L := [some (.inr 16), some (.inr 3)]) (st := [.inr 16]) (by decide) rfl (by decide) rfl ka_long rfl (fun _ => rfl) ⟨by decide, by decide, by decide⟩ ((zr14 hz).mono (by decide)) ⟨by decide, by decide⟩ hag (by decide) rfl rfl (svC (by decide)) (svD (by decide)) (dkAt dk_X1_init 8 rfl) 17 rfl (cs1 := 2) (sl1 := 72) rfl rfl (fun ad hag => ?_)
  change G (gc Γ KT ad (lC 19)) X (mm14 M) 2 72 [some (.ref (ad 16)), some (.ref (ad 3))] [.ref (ad 18), .ref (ad 16)] 17
  refine x_putFR (C.gc KR.tt ad (lC 19)) hI (kk := some) (rM := (mm15 M)) (fun _ _ => trivial) pkf_RX1_15 ⟨_, rfl⟩ (oc (by decide) (by decide) rfl) (dkAt dk_X1_init 9 rfl) 20 rfl rfl (fun M1 hM => ?_)
  cases hM
  refine x_aload_n (C.gc KR.tt ad (lC 19)) rfl rfl (dkAt dk_X1_init 10 rfl) 21 rfl ?_
  refine x_bipush (C.gc KR.tt ad (lC 19)) (v := (36 : Int32)) (by decide) (dkAt dk_X1_init 11 rfl) 23 rfl ?_
  refine d_newaC C (ty := .long) (L := [some (.inr 16), some (.inr 3)]) (st := [.inr 16]) (by decide) rfl (by decide) rfl ka_long rfl (fun _ => rfl) ⟨by decide, by decide, by decide⟩ ((zr15 hz).mono (by decide)) ⟨by decide, by decide⟩ hag (by decide) rfl rfl (svC (by decide)) (svD (by decide)) (dkAt dk_X1_init 12 rfl) 25 rfl (cs1 := 3) (sl1 := 108) rfl rfl (fun ad hag => ?_)
  change G (gc Γ KT ad (lC 20)) X (mm15 M) 3 108 [some (.ref (ad 16)), some (.ref (ad 3))] [.ref (ad 19), .ref (ad 16)] 25
  refine x_putFR (C.gc KR.tt ad (lC 20)) hI (kk := some) (rM := (mm16 M)) (fun _ _ => trivial) pkf_RX1_18 ⟨_, rfl⟩ (oc (by decide) (by decide) rfl) (dkAt dk_X1_init 13 rfl) 28 rfl rfl (fun M1 hM => ?_)
  cases hM
  refine x_aload_n (C.gc KR.tt ad (lC 20)) rfl rfl (dkAt dk_X1_init 14 rfl) 29 rfl ?_
  refine x_bipush (C.gc KR.tt ad (lC 20)) (v := (36 : Int32)) (by decide) (dkAt dk_X1_init 15 rfl) 31 rfl ?_
  refine d_newaC C (ty := .long) (L := [some (.inr 16), some (.inr 3)]) (st := [.inr 16]) (by decide) rfl (by decide) rfl ka_long rfl (fun _ => rfl) ⟨by decide, by decide, by decide⟩ ((zr16 hz).mono (by decide)) ⟨by decide, by decide⟩ hag (by decide) rfl rfl (svC (by decide)) (svD (by decide)) (dkAt dk_X1_init 16 rfl) 33 rfl (cs1 := 4) (sl1 := 144) rfl rfl (fun ad hag => ?_)
  change G (gc Γ KT ad (lC 21)) X (mm16 M) 4 144 [some (.ref (ad 16)), some (.ref (ad 3))] [.ref (ad 20), .ref (ad 16)] 33
  refine x_putFR (C.gc KR.tt ad (lC 21)) hI (kk := some) (rM := (mm17 M)) (fun _ _ => trivial) pkf_RX1_21 ⟨_, rfl⟩ (oc (by decide) (by decide) rfl) (dkAt dk_X1_init 17 rfl) 36 rfl rfl (fun M1 hM => ?_)
  cases hM
  refine x_aload_n (C.gc KR.tt ad (lC 21)) rfl rfl (dkAt dk_X1_init 18 rfl) 37 rfl ?_
  refine x_aload_n (C.gc KR.tt ad (lC 21)) rfl rfl (dkAt dk_X1_init 19 rfl) 38 rfl ?_
  refine x_putFR (C.gc KR.tt ad (lC 21)) hI (kk := some) (rM := (mm18 M)) (fun _ _ => trivial) pkf_RX1_24 ⟨_, rfl⟩ (oc (by decide) (by decide) rfl) (dkAt dk_X1_init 20 rfl) 41 rfl rfl (fun M1 hM => ?_)
  cases hM
  exact d_vret (K9 := KT) C E hag (fun h => h) (by decide) (by decide) (dkAt dk_X1_init 21 rfl)
set_option maxRecDepth 100000 in
theorem k_X0_init_22 {Γ : WC} {M : Mem} (hG : HG Γ) (hov : va_AO "DecisionChain$Settings" (wU Γ)) (hz : Zc 0 M) : CtD Γ KT KT yX0_init cX0_init 1 none (rmL 1 6 312) (lC 23) (lC 29) [.inr 22] (mm19 M) none (mm25 M) := by
  refine mkD hG (own := RX0) rfl (by decide) (fun _ => Nat.le_of_ble_eq_true rfl) (fun ad0 X C hI0 E => ?_)
  have hI := hI0 rfl
  have hag : agr (lC 23) ad0 ad0 := agr.rfl
  change G (gc Γ KT ad0 (lC 23)) X (mm19 M) 0 0 [some (.ref (ad0 22))] [] 0
  refine x_aload_n (C.gc KR.tt ad0 (lC 23)) rfl rfl (dkAt dk_X0_init 0 rfl) 1 rfl ?_
  refine d_obj C lo_RX0_3 mi_obj cw_obj ⟨by decide, by decide⟩ (by decide) (dkAt dk_X0_init 1 rfl) 4 rfl ?_
  refine x_aload_n (C.gc KR.tt ad0 (lC 23)) rfl rfl (dkAt dk_X0_init 2 rfl) 5 rfl ?_
  refine x_bipush (C.gc KR.tt ad0 (lC 23)) (v := (6 : Int32)) (by decide) (dkAt dk_X0_init 3 rfl) 7 rfl ?_
  refine d_newaC C (ty := .int) (L := [some (.inr 22)]) (st := [.inr 22]) (by decide) rfl (by decide) rfl ka_int rfl (fun _ => rfl) ⟨by decide, by decide, by decide⟩ ((zr19 hz).mono (by decide)) ⟨by decide, by decide⟩ hag (by decide) rfl rfl (svC (by decide)) (svD (by decide)) (dkAt dk_X0_init 4 rfl) 9 rfl (cs1 := 1) (sl1 := 6) rfl rfl (fun ad hag => ?_)
  change G (gc Γ KT ad (lC 24)) X (mm19 M) 1 6 [some (.ref (ad 22))] [.ref (ad 23), .ref (ad 22)] 9
  refine x_putFR (C.gc KR.tt ad (lC 24)) hI (kk := some) (rM := (mm20 M)) (fun _ _ => trivial) pkf_RX0_9 ⟨_, rfl⟩ (oc (by decide) (by decide) rfl) (dkAt dk_X0_init 5 rfl) 12 rfl rfl (fun M1 hM => ?_)
  cases hM
  refine x_aload_n (C.gc KR.tt ad (lC 24)) rfl rfl (dkAt dk_X0_init 6 rfl) 13 rfl ?_
  refine x_bipush (C.gc KR.tt ad (lC 24)) (v := (18 : Int32)) (by decide) (dkAt dk_X0_init 7 rfl) 15 rfl ?_
  refine d_newaC C (ty := .int) (L := [some (.inr 22)]) (st := [.inr 22]) (by decide) rfl (by decide) rfl ka_int rfl (fun _ => rfl) ⟨by decide, by decide, by decide⟩ ((zr20 hz).mono (by decide)) ⟨by decide, by decide⟩ hag (by decide) rfl rfl (svC (by decide)) (svD (by decide)) (dkAt dk_X0_init 8 rfl) 17 rfl (cs1 := 2) (sl1 := 24) rfl rfl (fun ad hag => ?_)
  change G (gc Γ KT ad (lC 25)) X (mm20 M) 2 24 [some (.ref (ad 22))] [.ref (ad 24), .ref (ad 22)] 17
  refine x_putFR (C.gc KR.tt ad (lC 25)) hI (kk := some) (rM := (mm21 M)) (fun _ _ => trivial) pkf_RX0_15 ⟨_, rfl⟩ (oc (by decide) (by decide) rfl) (dkAt dk_X0_init 9 rfl) 20 rfl rfl (fun M1 hM => ?_)
  cases hM
  refine x_aload_n (C.gc KR.tt ad (lC 25)) rfl rfl (dkAt dk_X0_init 10 rfl) 21 rfl ?_
  refine x_bipush (C.gc KR.tt ad (lC 25)) (v := (54 : Int32)) (by decide) (dkAt dk_X0_init 11 rfl) 23 rfl ?_
  refine d_newaC C (ty := .int) (L := [some (.inr 22)]) (st := [.inr 22]) (by decide) rfl (by decide) rfl ka_int rfl (fun _ => rfl) ⟨by decide, by decide, by decide⟩ ((zr21 hz).mono (by decide)) ⟨by decide, by decide⟩ hag (by decide) rfl rfl (svC (by decide)) (svD (by decide)) (dkAt dk_X0_init 12 rfl) 25 rfl (cs1 := 3) (sl1 := 78) rfl rfl (fun ad hag => ?_)
  change G (gc Γ KT ad (lC 26)) X (mm21 M) 3 78 [some (.ref (ad 22))] [.ref (ad 25), .ref (ad 22)] 25
  refine x_putFR (C.gc KR.tt ad (lC 26)) hI (kk := some) (rM := (mm22 M)) (fun _ _ => trivial) pkf_RX0_18 ⟨_, rfl⟩ (oc (by decide) (by decide) rfl) (dkAt dk_X0_init 13 rfl) 28 rfl rfl (fun M1 hM => ?_)
  cases hM
  refine x_aload_n (C.gc KR.tt ad (lC 26)) rfl rfl (dkAt dk_X0_init 14 rfl) 29 rfl ?_
  refine x_bipush (C.gc KR.tt ad (lC 26)) (v := (108 : Int32)) (by decide) (dkAt dk_X0_init 15 rfl) 31 rfl ?_
  refine d_newaC C (ty := .int) (L := [some (.inr 22)]) (st := [.inr 22]) (by decide) rfl (by decide) rfl ka_int rfl (fun _ => rfl) ⟨by decide, by decide, by decide⟩ ((zr22 hz).mono (by decide)) ⟨by decide, by decide⟩ hag (by decide) rfl rfl (svC (by decide)) (svD (by decide)) (dkAt dk_X0_init 16 rfl) 33 rfl (cs1 := 4) (sl1 := 186) rfl rfl (fun ad hag => ?_)
  change G (gc Γ KT ad (lC 27)) X (mm22 M) 4 186 [some (.ref (ad 22))] [.ref (ad 26), .ref (ad 22)] 33
  refine x_putFR (C.gc KR.tt ad (lC 27)) hI (kk := some) (rM := (mm23 M)) (fun _ _ => trivial) pkf_RX0_21 ⟨_, rfl⟩ (oc (by decide) (by decide) rfl) (dkAt dk_X0_init 17 rfl) 36 rfl rfl (fun M1 hM => ?_)
  cases hM
  refine x_aload_n (C.gc KR.tt ad (lC 27)) rfl rfl (dkAt dk_X0_init 18 rfl) 37 rfl ?_
  refine x_bipush (C.gc KR.tt ad (lC 27)) (v := (108 : Int32)) (by decide) (dkAt dk_X0_init 19 rfl) 39 rfl ?_
  refine d_newaC C (ty := .int) (L := [some (.inr 22)]) (st := [.inr 22]) (by decide) rfl (by decide) rfl ka_int rfl (fun _ => rfl) ⟨by decide, by decide, by decide⟩ ((zr23 hz).mono (by decide)) ⟨by decide, by decide⟩ hag (by decide) rfl rfl (svC (by decide)) (svD (by decide)) (dkAt dk_X0_init 20 rfl) 41 rfl (cs1 := 5) (sl1 := 294) rfl rfl (fun ad hag => ?_)
  change G (gc Γ KT ad (lC 28)) X (mm23 M) 5 294 [some (.ref (ad 22))] [.ref (ad 27), .ref (ad 22)] 41
  refine x_putFR (C.gc KR.tt ad (lC 28)) hI (kk := some) (rM := (mm24 M)) (fun _ _ => trivial) pkf_RX0_24 ⟨_, rfl⟩ (oc (by decide) (by decide) rfl) (dkAt dk_X0_init 21 rfl) 44 rfl rfl (fun M1 hM => ?_)
  cases hM
  refine x_aload_n (C.gc KR.tt ad (lC 28)) rfl rfl (dkAt dk_X0_init 22 rfl) 45 rfl ?_
  refine x_bipush (C.gc KR.tt ad (lC 28)) (v := (18 : Int32)) (by decide) (dkAt dk_X0_init 23 rfl) 47 rfl ?_
  refine d_newaC C (ty := .int) (L := [some (.inr 22)]) (st := [.inr 22]) (by decide) rfl (by decide) rfl ka_int rfl (fun _ => rfl) ⟨by decide, by decide, by decide⟩ ((zr24 hz).mono (by decide)) ⟨by decide, by decide⟩ hag (by decide) rfl rfl (svC (by decide)) (svD (by decide)) (dkAt dk_X0_init 24 rfl) 49 rfl (cs1 := 6) (sl1 := 312) rfl rfl (fun ad hag => ?_)
  change G (gc Γ KT ad (lC 29)) X (mm24 M) 6 312 [some (.ref (ad 22))] [.ref (ad 28), .ref (ad 22)] 49
  refine x_putFR (C.gc KR.tt ad (lC 29)) hI (kk := some) (rM := (mm25 M)) (fun _ _ => trivial) pkf_RX0_27 ⟨_, rfl⟩ (oc (by decide) (by decide) rfl) (dkAt dk_X0_init 25 rfl) 52 rfl rfl (fun M1 hM => ?_)
  cases hM
  exact d_vret (K9 := KT) C E hag (fun h => h) (by decide) (by decide) (dkAt dk_X0_init 26 rfl)
set_option maxRecDepth 100000 in
theorem k_X7_init_29 {Γ : WC} {M : Mem} (hG : HG Γ) (hov : va_AO "DecisionChain$Settings" (wU Γ)) (hz : Zc 0 M) : CtD Γ KT KT yX7_init cX7_init 1 none (rmL 1 5 38) (lC 30) (lC 35) [.inr 29] (mm26 M) none (mm32 M) := by
  refine mkD hG (own := RX7) rfl (by decide) (fun _ => Nat.le_of_ble_eq_true rfl) (fun ad0 X C hI0 E => ?_)
  have hI := hI0 rfl
  have hag : agr (lC 30) ad0 ad0 := agr.rfl
  change G (gc Γ KT ad0 (lC 30)) X (mm26 M) 0 0 [some (.ref (ad0 29))] [] 0
  refine x_aload_n (C.gc KR.tt ad0 (lC 30)) rfl rfl (dkAt dk_X7_init 0 rfl) 1 rfl ?_
  refine d_obj C lo_RX7_3 mi_obj cw_obj ⟨by decide, by decide⟩ (by decide) (dkAt dk_X7_init 1 rfl) 4 rfl ?_
  refine x_aload_n (C.gc KR.tt ad0 (lC 30)) rfl rfl (dkAt dk_X7_init 2 rfl) 5 rfl ?_
  refine x_bipush (C.gc KR.tt ad0 (lC 30)) (v := (18 : Int32)) (by decide) (dkAt dk_X7_init 3 rfl) 7 rfl ?_
  refine d_newaC C (ty := .int) (L := [some (.inr 29)]) (st := [.inr 29]) (by decide) rfl (by decide) rfl ka_int rfl (fun _ => rfl) ⟨by decide, by decide, by decide⟩ ((zr26 hz).mono (by decide)) ⟨by decide, by decide⟩ hag (by decide) rfl rfl (svC (by decide)) (svD (by decide)) (dkAt dk_X7_init 4 rfl) 9 rfl (cs1 := 1) (sl1 := 18) rfl rfl (fun ad hag => ?_)
  change G (gc Γ KT ad (lC 31)) X (mm26 M) 1 18 [some (.ref (ad 29))] [.ref (ad 30), .ref (ad 29)] 9
  refine x_putFR (C.gc KR.tt ad (lC 31)) hI (kk := some) (rM := (mm27 M)) (fun _ _ => trivial) pkf_RX7_9 ⟨_, rfl⟩ (oc (by decide) (by decide) rfl) (dkAt dk_X7_init 5 rfl) 12 rfl rfl (fun M1 hM => ?_)
  cases hM
  refine x_aload_n (C.gc KR.tt ad (lC 31)) rfl rfl (dkAt dk_X7_init 6 rfl) 13 rfl ?_
  refine x_bipush (C.gc KR.tt ad (lC 31)) (v := (6 : Int32)) (by decide) (dkAt dk_X7_init 7 rfl) 15 rfl ?_
  refine d_newaC C (ty := .int) (L := [some (.inr 29)]) (st := [.inr 29]) (by decide) rfl (by decide) rfl ka_int rfl (fun _ => rfl) ⟨by decide, by decide, by decide⟩ ((zr27 hz).mono (by decide)) ⟨by decide, by decide⟩ hag (by decide) rfl rfl (svC (by decide)) (svD (by decide)) (dkAt dk_X7_init 8 rfl) 17 rfl (cs1 := 2) (sl1 := 24) rfl rfl (fun ad hag => ?_)
  change G (gc Γ KT ad (lC 32)) X (mm27 M) 2 24 [some (.ref (ad 29))] [.ref (ad 31), .ref (ad 29)] 17
  refine x_putFR (C.gc KR.tt ad (lC 32)) hI (kk := some) (rM := (mm28 M)) (fun _ _ => trivial) pkf_RX7_15 ⟨_, rfl⟩ (oc (by decide) (by decide) rfl) (dkAt dk_X7_init 9 rfl) 20 rfl rfl (fun M1 hM => ?_)
  cases hM
  refine x_aload_n (C.gc KR.tt ad (lC 32)) rfl rfl (dkAt dk_X7_init 10 rfl) 21 rfl ?_
  refine x_iconst (C.gc KR.tt ad (lC 32)) (v := (3 : Int32)) (by decide) (dkAt dk_X7_init 11 rfl) 22 rfl ?_
  refine d_newaC C (ty := .int) (L := [some (.inr 29)]) (st := [.inr 29]) (by decide) rfl (by decide) rfl ka_int rfl (fun _ => rfl) ⟨by decide, by decide, by decide⟩ ((zr28 hz).mono (by decide)) ⟨by decide, by decide⟩ hag (by decide) rfl rfl (svC (by decide)) (svD (by decide)) (dkAt dk_X7_init 12 rfl) 24 rfl (cs1 := 3) (sl1 := 27) rfl rfl (fun ad hag => ?_)
  change G (gc Γ KT ad (lC 33)) X (mm28 M) 3 27 [some (.ref (ad 29))] [.ref (ad 32), .ref (ad 29)] 24
  refine x_putFR (C.gc KR.tt ad (lC 33)) hI (kk := some) (rM := (mm29 M)) (fun _ _ => trivial) pkf_RX7_18 ⟨_, rfl⟩ (oc (by decide) (by decide) rfl) (dkAt dk_X7_init 13 rfl) 27 rfl rfl (fun M1 hM => ?_)
  cases hM
  refine x_aload_n (C.gc KR.tt ad (lC 33)) rfl rfl (dkAt dk_X7_init 14 rfl) 28 rfl ?_
  refine x_iconst (C.gc KR.tt ad (lC 33)) (v := (-1 : Int32)) (by decide) (dkAt dk_X7_init 15 rfl) 29 rfl ?_
  refine x_putI (C.gc KR.tt ad (lC 33)) (kk := some) (rM := (mm30 M)) pk_RX7_21 ⟨_, rfl⟩ (oc (by decide) (by decide) rfl) (dkAt dk_X7_init 16 rfl) 32 rfl rfl (fun M1 hM => ?_)
  cases hM
  refine x_aload_n (C.gc KR.tt ad (lC 33)) rfl rfl (dkAt dk_X7_init 17 rfl) 33 rfl ?_
  refine x_bipush (C.gc KR.tt ad (lC 33)) (v := (6 : Int32)) (by decide) (dkAt dk_X7_init 18 rfl) 35 rfl ?_
  refine d_newaC C (ty := .int) (L := [some (.inr 29)]) (st := [.inr 29]) (by decide) rfl (by decide) rfl ka_int rfl (fun _ => rfl) ⟨by decide, by decide, by decide⟩ ((zr30 hz).mono (by decide)) ⟨by decide, by decide⟩ hag (by decide) rfl rfl (svC (by decide)) (svD (by decide)) (dkAt dk_X7_init 19 rfl) 37 rfl (cs1 := 4) (sl1 := 33) rfl rfl (fun ad hag => ?_)
  change G (gc Γ KT ad (lC 34)) X (mm30 M) 4 33 [some (.ref (ad 29))] [.ref (ad 33), .ref (ad 29)] 37
  refine x_putFR (C.gc KR.tt ad (lC 34)) hI (kk := some) (rM := (mm31 M)) (fun _ _ => trivial) pkf_RX7_25 ⟨_, rfl⟩ (oc (by decide) (by decide) rfl) (dkAt dk_X7_init 20 rfl) 40 rfl rfl (fun M1 hM => ?_)
  cases hM
  refine x_aload_n (C.gc KR.tt ad (lC 34)) rfl rfl (dkAt dk_X7_init 21 rfl) 41 rfl ?_
  refine x_iconst (C.gc KR.tt ad (lC 34)) (v := (5 : Int32)) (by decide) (dkAt dk_X7_init 22 rfl) 42 rfl ?_
  refine d_newaC C (ty := .int) (L := [some (.inr 29)]) (st := [.inr 29]) (by decide) rfl (by decide) rfl ka_int rfl (fun _ => rfl) ⟨by decide, by decide, by decide⟩ ((zr31 hz).mono (by decide)) ⟨by decide, by decide⟩ hag (by decide) rfl rfl (svC (by decide)) (svD (by decide)) (dkAt dk_X7_init 23 rfl) 44 rfl (cs1 := 5) (sl1 := 38) rfl rfl (fun ad hag => ?_)
  change G (gc Γ KT ad (lC 35)) X (mm31 M) 5 38 [some (.ref (ad 29))] [.ref (ad 34), .ref (ad 29)] 44
  refine x_putFR (C.gc KR.tt ad (lC 35)) hI (kk := some) (rM := (mm32 M)) (fun _ _ => trivial) pkf_RX7_28 ⟨_, rfl⟩ (oc (by decide) (by decide) rfl) (dkAt dk_X7_init 24 rfl) 47 rfl rfl (fun M1 hM => ?_)
  cases hM
  exact d_vret (K9 := KT) C E hag (fun h => h) (by decide) (by decide) (dkAt dk_X7_init 25 rfl)
set_option maxRecDepth 100000 in
theorem k_X4_init_21 {Γ : WC} {M : Mem} (hG : HG Γ) (hov : va_AO "DecisionChain$Settings" (wU Γ)) (hz : Zc 0 M) : CtD Γ KT KT yX4_init cX4_init 2 none (rmL 2 13 367) (lC 22) (lC 35) [.inr 21, .inr 1] (mm19 M) none (mm35 M) := by
  refine mkD hG (own := RX4) rfl (by decide) (fun _ => Nat.le_of_ble_eq_true rfl) (fun ad0 X C hI0 E => ?_)
  have hI := hI0 rfl
  have hag : agr (lC 22) ad0 ad0 := agr.rfl
  change G (gc Γ KT ad0 (lC 22)) X (mm19 M) 0 0 [some (.ref (ad0 21)), some (.ref (ad0 1))] [] 0
  refine x_aload_n (C.gc KR.tt ad0 (lC 22)) rfl rfl (dkAt dk_X4_init 0 rfl) 1 rfl ?_
  refine d_obj C lo_RX4_3 mi_obj cw_obj ⟨by decide, by decide⟩ (by decide) (dkAt dk_X4_init 1 rfl) 4 rfl ?_
  refine x_aload_n (C.gc KR.tt ad0 (lC 22)) rfl rfl (dkAt dk_X4_init 2 rfl) 5 rfl ?_
  refine d_newC C (L := [some (.inr 21), some (.inr 1)]) (st := [.inr 21]) (by decide) rfl rc0 uw0 tyX0_ok kd_0 kl_RX4_9 ki_0 kn_0 ((zr19 hz).mono (by decide)) ⟨by decide, by decide⟩ hag (by decide) rfl rfl (svC (by decide)) (svD (by decide)) (dkAt dk_X4_init 3 rfl) 8 rfl (cs1 := 1) (sl1 := 8) rfl rfl (fun ad hag => ?_)
  change G (gc Γ KT ad (lC 23)) X (mm19 M) 1 8 [some (.ref (ad 21)), some (.ref (ad 1))] [.ref (ad 22), .ref (ad 21)] 8
  refine x_dup (C.gc KR.tt ad (lC 23)) rfl (dkAt dk_X4_init 4 rfl) 9 rfl ?_
  refine d_cJ C (k_X0_init_22 hG hov hz) mw_X0_init ln_RX4_11 mii_X0_init ⟨by decide, by decide, by decide, by decide⟩ rfl hag (lC_sub (by decide)) (L := [some (.inr 21), some (.inr 1)]) (st := [.inr 22, .inr 21]) rfl rfl (svC (by decide)) (svD (by decide)) (Nat.le_of_ble_eq_true rfl) (dkAt dk_X4_init 5 rfl) 12 rfl (cs1 := 7) (sl1 := 320) rfl rfl (fun _ ad hag => ?_)
  change G (gc Γ KT ad (lC 29)) X (mm25 M) 7 320 [some (.ref (ad 21)), some (.ref (ad 1))] [.ref (ad 22), .ref (ad 21)] 12
  refine x_putFR (C.gc KR.tt ad (lC 29)) hI (kk := some) (rM := (mm26 M)) (fun _ _ => trivial) pkf_RX4_12 ⟨_, rfl⟩ (oc (by decide) (by decide) rfl) (dkAt dk_X4_init 6 rfl) 15 rfl rfl (fun M1 hM => ?_)
  cases hM
  refine x_aload_n (C.gc KR.tt ad (lC 29)) rfl rfl (dkAt dk_X4_init 7 rfl) 16 rfl ?_
  refine d_newC C (L := [some (.inr 21), some (.inr 1)]) (st := [.inr 21]) (by decide) rfl rc7 uw7 tyX7_ok kd_7 kl_RX4_18 ki_7 kn_7 ((zr26 hz).mono (by decide)) ⟨by decide, by decide⟩ hag (by decide) rfl rfl (svC (by decide)) (svD (by decide)) (dkAt dk_X4_init 8 rfl) 19 rfl (cs1 := 8) (sl1 := 329) rfl rfl (fun ad hag => ?_)
  change G (gc Γ KT ad (lC 30)) X (mm26 M) 8 329 [some (.ref (ad 21)), some (.ref (ad 1))] [.ref (ad 29), .ref (ad 21)] 19
  refine x_dup (C.gc KR.tt ad (lC 30)) rfl (dkAt dk_X4_init 9 rfl) 20 rfl ?_
  refine d_cJ C (k_X7_init_29 hG hov hz) mw_X7_init ln_RX4_20 mii_X7_init ⟨by decide, by decide, by decide, by decide⟩ rfl hag (lC_sub (by decide)) (L := [some (.inr 21), some (.inr 1)]) (st := [.inr 29, .inr 21]) rfl rfl (svC (by decide)) (svD (by decide)) (Nat.le_of_ble_eq_true rfl) (dkAt dk_X4_init 10 rfl) 23 rfl (cs1 := 13) (sl1 := 367) rfl rfl (fun _ ad hag => ?_)
  change G (gc Γ KT ad (lC 35)) X (mm32 M) 13 367 [some (.ref (ad 21)), some (.ref (ad 1))] [.ref (ad 29), .ref (ad 21)] 23
  refine x_putFR (C.gc KR.tt ad (lC 35)) hI (kk := some) (rM := (mm33 M)) (fun _ _ => trivial) pkf_RX4_21 ⟨_, rfl⟩ (oc (by decide) (by decide) rfl) (dkAt dk_X4_init 11 rfl) 26 rfl rfl (fun M1 hM => ?_)
  cases hM
  refine x_aload_n (C.gc KR.tt ad (lC 35)) rfl rfl (dkAt dk_X4_init 12 rfl) 27 rfl ?_
  refine x_iconst (C.gc KR.tt ad (lC 35)) (v := (-1 : Int32)) (by decide) (dkAt dk_X4_init 13 rfl) 28 rfl ?_
  refine x_putI (C.gc KR.tt ad (lC 35)) (kk := some) (rM := (mm34 M)) pk_RX4_25 ⟨_, rfl⟩ (oc (by decide) (by decide) rfl) (dkAt dk_X4_init 14 rfl) 31 rfl rfl (fun M1 hM => ?_)
  cases hM
  refine x_aload_n (C.gc KR.tt ad (lC 35)) rfl rfl (dkAt dk_X4_init 15 rfl) 32 rfl ?_
  refine x_aload_n (C.gc KR.tt ad (lC 35)) rfl rfl (dkAt dk_X4_init 16 rfl) 33 rfl ?_
  refine x_putFR (C.gc KR.tt ad (lC 35)) hI (kk := some) (rM := (mm35 M)) (fun _ _ => trivial) pkf_RX4_29 ⟨_, rfl⟩ (oc (by decide) (by decide) rfl) (dkAt dk_X4_init 17 rfl) 36 rfl rfl (fun M1 hM => ?_)
  cases hM
  exact d_vret (K9 := KT) C E hag (fun h => h) (by decide) (by decide) (dkAt dk_X4_init 18 rfl)
set_option maxRecDepth 100000 in
theorem k_X7_init_38 {Γ : WC} {M : Mem} (hG : HG Γ) (hov : va_AO "DecisionChain$Settings" (wU Γ)) (hz : Zc 0 M) : CtD Γ KT KT yX7_init cX7_init 1 none (rmL 1 5 38) (lC 39) (lC 44) [.inr 38] (mm40 M) none (mm46 M) := by
  refine mkD hG (own := RX7) rfl (by decide) (fun _ => Nat.le_of_ble_eq_true rfl) (fun ad0 X C hI0 E => ?_)
  have hI := hI0 rfl
  have hag : agr (lC 39) ad0 ad0 := agr.rfl
  change G (gc Γ KT ad0 (lC 39)) X (mm40 M) 0 0 [some (.ref (ad0 38))] [] 0
  refine x_aload_n (C.gc KR.tt ad0 (lC 39)) rfl rfl (dkAt dk_X7_init 0 rfl) 1 rfl ?_
  refine d_obj C lo_RX7_3 mi_obj cw_obj ⟨by decide, by decide⟩ (by decide) (dkAt dk_X7_init 1 rfl) 4 rfl ?_
  refine x_aload_n (C.gc KR.tt ad0 (lC 39)) rfl rfl (dkAt dk_X7_init 2 rfl) 5 rfl ?_
  refine x_bipush (C.gc KR.tt ad0 (lC 39)) (v := (18 : Int32)) (by decide) (dkAt dk_X7_init 3 rfl) 7 rfl ?_
  refine d_newaC C (ty := .int) (L := [some (.inr 38)]) (st := [.inr 38]) (by decide) rfl (by decide) rfl ka_int rfl (fun _ => rfl) ⟨by decide, by decide, by decide⟩ ((zr40 hz).mono (by decide)) ⟨by decide, by decide⟩ hag (by decide) rfl rfl (svC (by decide)) (svD (by decide)) (dkAt dk_X7_init 4 rfl) 9 rfl (cs1 := 1) (sl1 := 18) rfl rfl (fun ad hag => ?_)
  change G (gc Γ KT ad (lC 40)) X (mm40 M) 1 18 [some (.ref (ad 38))] [.ref (ad 39), .ref (ad 38)] 9
  refine x_putFR (C.gc KR.tt ad (lC 40)) hI (kk := some) (rM := (mm41 M)) (fun _ _ => trivial) pkf_RX7_9 ⟨_, rfl⟩ (oc (by decide) (by decide) rfl) (dkAt dk_X7_init 5 rfl) 12 rfl rfl (fun M1 hM => ?_)
  cases hM
  refine x_aload_n (C.gc KR.tt ad (lC 40)) rfl rfl (dkAt dk_X7_init 6 rfl) 13 rfl ?_
  refine x_bipush (C.gc KR.tt ad (lC 40)) (v := (6 : Int32)) (by decide) (dkAt dk_X7_init 7 rfl) 15 rfl ?_
  refine d_newaC C (ty := .int) (L := [some (.inr 38)]) (st := [.inr 38]) (by decide) rfl (by decide) rfl ka_int rfl (fun _ => rfl) ⟨by decide, by decide, by decide⟩ ((zr41 hz).mono (by decide)) ⟨by decide, by decide⟩ hag (by decide) rfl rfl (svC (by decide)) (svD (by decide)) (dkAt dk_X7_init 8 rfl) 17 rfl (cs1 := 2) (sl1 := 24) rfl rfl (fun ad hag => ?_)
  change G (gc Γ KT ad (lC 41)) X (mm41 M) 2 24 [some (.ref (ad 38))] [.ref (ad 40), .ref (ad 38)] 17
  refine x_putFR (C.gc KR.tt ad (lC 41)) hI (kk := some) (rM := (mm42 M)) (fun _ _ => trivial) pkf_RX7_15 ⟨_, rfl⟩ (oc (by decide) (by decide) rfl) (dkAt dk_X7_init 9 rfl) 20 rfl rfl (fun M1 hM => ?_)
  cases hM
  refine x_aload_n (C.gc KR.tt ad (lC 41)) rfl rfl (dkAt dk_X7_init 10 rfl) 21 rfl ?_
  refine x_iconst (C.gc KR.tt ad (lC 41)) (v := (3 : Int32)) (by decide) (dkAt dk_X7_init 11 rfl) 22 rfl ?_
  refine d_newaC C (ty := .int) (L := [some (.inr 38)]) (st := [.inr 38]) (by decide) rfl (by decide) rfl ka_int rfl (fun _ => rfl) ⟨by decide, by decide, by decide⟩ ((zr42 hz).mono (by decide)) ⟨by decide, by decide⟩ hag (by decide) rfl rfl (svC (by decide)) (svD (by decide)) (dkAt dk_X7_init 12 rfl) 24 rfl (cs1 := 3) (sl1 := 27) rfl rfl (fun ad hag => ?_)
  change G (gc Γ KT ad (lC 42)) X (mm42 M) 3 27 [some (.ref (ad 38))] [.ref (ad 41), .ref (ad 38)] 24
  refine x_putFR (C.gc KR.tt ad (lC 42)) hI (kk := some) (rM := (mm43 M)) (fun _ _ => trivial) pkf_RX7_18 ⟨_, rfl⟩ (oc (by decide) (by decide) rfl) (dkAt dk_X7_init 13 rfl) 27 rfl rfl (fun M1 hM => ?_)
  cases hM
  refine x_aload_n (C.gc KR.tt ad (lC 42)) rfl rfl (dkAt dk_X7_init 14 rfl) 28 rfl ?_
  refine x_iconst (C.gc KR.tt ad (lC 42)) (v := (-1 : Int32)) (by decide) (dkAt dk_X7_init 15 rfl) 29 rfl ?_
  refine x_putI (C.gc KR.tt ad (lC 42)) (kk := some) (rM := (mm44 M)) pk_RX7_21 ⟨_, rfl⟩ (oc (by decide) (by decide) rfl) (dkAt dk_X7_init 16 rfl) 32 rfl rfl (fun M1 hM => ?_)
  cases hM
  refine x_aload_n (C.gc KR.tt ad (lC 42)) rfl rfl (dkAt dk_X7_init 17 rfl) 33 rfl ?_
  refine x_bipush (C.gc KR.tt ad (lC 42)) (v := (6 : Int32)) (by decide) (dkAt dk_X7_init 18 rfl) 35 rfl ?_
  refine d_newaC C (ty := .int) (L := [some (.inr 38)]) (st := [.inr 38]) (by decide) rfl (by decide) rfl ka_int rfl (fun _ => rfl) ⟨by decide, by decide, by decide⟩ ((zr44 hz).mono (by decide)) ⟨by decide, by decide⟩ hag (by decide) rfl rfl (svC (by decide)) (svD (by decide)) (dkAt dk_X7_init 19 rfl) 37 rfl (cs1 := 4) (sl1 := 33) rfl rfl (fun ad hag => ?_)
  change G (gc Γ KT ad (lC 43)) X (mm44 M) 4 33 [some (.ref (ad 38))] [.ref (ad 42), .ref (ad 38)] 37
  refine x_putFR (C.gc KR.tt ad (lC 43)) hI (kk := some) (rM := (mm45 M)) (fun _ _ => trivial) pkf_RX7_25 ⟨_, rfl⟩ (oc (by decide) (by decide) rfl) (dkAt dk_X7_init 20 rfl) 40 rfl rfl (fun M1 hM => ?_)
  cases hM
  refine x_aload_n (C.gc KR.tt ad (lC 43)) rfl rfl (dkAt dk_X7_init 21 rfl) 41 rfl ?_
  refine x_iconst (C.gc KR.tt ad (lC 43)) (v := (5 : Int32)) (by decide) (dkAt dk_X7_init 22 rfl) 42 rfl ?_
  refine d_newaC C (ty := .int) (L := [some (.inr 38)]) (st := [.inr 38]) (by decide) rfl (by decide) rfl ka_int rfl (fun _ => rfl) ⟨by decide, by decide, by decide⟩ ((zr45 hz).mono (by decide)) ⟨by decide, by decide⟩ hag (by decide) rfl rfl (svC (by decide)) (svD (by decide)) (dkAt dk_X7_init 23 rfl) 44 rfl (cs1 := 5) (sl1 := 38) rfl rfl (fun ad hag => ?_)
  change G (gc Γ KT ad (lC 44)) X (mm45 M) 5 38 [some (.ref (ad 38))] [.ref (ad 43), .ref (ad 38)] 44
  refine x_putFR (C.gc KR.tt ad (lC 44)) hI (kk := some) (rM := (mm46 M)) (fun _ _ => trivial) pkf_RX7_28 ⟨_, rfl⟩ (oc (by decide) (by decide) rfl) (dkAt dk_X7_init 24 rfl) 47 rfl rfl (fun M1 hM => ?_)
  cases hM
  exact d_vret (K9 := KT) C E hag (fun h => h) (by decide) (by decide) (dkAt dk_X7_init 25 rfl)
set_option maxRecDepth 100000 in
theorem k_X7_init_44 {Γ : WC} {M : Mem} (hG : HG Γ) (hov : va_AO "DecisionChain$Settings" (wU Γ)) (hz : Zc 0 M) : CtD Γ KT KT yX7_init cX7_init 1 none (rmL 1 5 38) (lC 45) (lC 50) [.inr 44] (mm47 M) none (mm53 M) := by
  refine mkD hG (own := RX7) rfl (by decide) (fun _ => Nat.le_of_ble_eq_true rfl) (fun ad0 X C hI0 E => ?_)
  have hI := hI0 rfl
  have hag : agr (lC 45) ad0 ad0 := agr.rfl
  change G (gc Γ KT ad0 (lC 45)) X (mm47 M) 0 0 [some (.ref (ad0 44))] [] 0
  refine x_aload_n (C.gc KR.tt ad0 (lC 45)) rfl rfl (dkAt dk_X7_init 0 rfl) 1 rfl ?_
  refine d_obj C lo_RX7_3 mi_obj cw_obj ⟨by decide, by decide⟩ (by decide) (dkAt dk_X7_init 1 rfl) 4 rfl ?_
  refine x_aload_n (C.gc KR.tt ad0 (lC 45)) rfl rfl (dkAt dk_X7_init 2 rfl) 5 rfl ?_
  refine x_bipush (C.gc KR.tt ad0 (lC 45)) (v := (18 : Int32)) (by decide) (dkAt dk_X7_init 3 rfl) 7 rfl ?_
  refine d_newaC C (ty := .int) (L := [some (.inr 44)]) (st := [.inr 44]) (by decide) rfl (by decide) rfl ka_int rfl (fun _ => rfl) ⟨by decide, by decide, by decide⟩ ((zr47 hz).mono (by decide)) ⟨by decide, by decide⟩ hag (by decide) rfl rfl (svC (by decide)) (svD (by decide)) (dkAt dk_X7_init 4 rfl) 9 rfl (cs1 := 1) (sl1 := 18) rfl rfl (fun ad hag => ?_)
  change G (gc Γ KT ad (lC 46)) X (mm47 M) 1 18 [some (.ref (ad 44))] [.ref (ad 45), .ref (ad 44)] 9
  refine x_putFR (C.gc KR.tt ad (lC 46)) hI (kk := some) (rM := (mm48 M)) (fun _ _ => trivial) pkf_RX7_9 ⟨_, rfl⟩ (oc (by decide) (by decide) rfl) (dkAt dk_X7_init 5 rfl) 12 rfl rfl (fun M1 hM => ?_)
  cases hM
  refine x_aload_n (C.gc KR.tt ad (lC 46)) rfl rfl (dkAt dk_X7_init 6 rfl) 13 rfl ?_
  refine x_bipush (C.gc KR.tt ad (lC 46)) (v := (6 : Int32)) (by decide) (dkAt dk_X7_init 7 rfl) 15 rfl ?_
  refine d_newaC C (ty := .int) (L := [some (.inr 44)]) (st := [.inr 44]) (by decide) rfl (by decide) rfl ka_int rfl (fun _ => rfl) ⟨by decide, by decide, by decide⟩ ((zr48 hz).mono (by decide)) ⟨by decide, by decide⟩ hag (by decide) rfl rfl (svC (by decide)) (svD (by decide)) (dkAt dk_X7_init 8 rfl) 17 rfl (cs1 := 2) (sl1 := 24) rfl rfl (fun ad hag => ?_)
  change G (gc Γ KT ad (lC 47)) X (mm48 M) 2 24 [some (.ref (ad 44))] [.ref (ad 46), .ref (ad 44)] 17
  refine x_putFR (C.gc KR.tt ad (lC 47)) hI (kk := some) (rM := (mm49 M)) (fun _ _ => trivial) pkf_RX7_15 ⟨_, rfl⟩ (oc (by decide) (by decide) rfl) (dkAt dk_X7_init 9 rfl) 20 rfl rfl (fun M1 hM => ?_)
  cases hM
  refine x_aload_n (C.gc KR.tt ad (lC 47)) rfl rfl (dkAt dk_X7_init 10 rfl) 21 rfl ?_
  refine x_iconst (C.gc KR.tt ad (lC 47)) (v := (3 : Int32)) (by decide) (dkAt dk_X7_init 11 rfl) 22 rfl ?_
  refine d_newaC C (ty := .int) (L := [some (.inr 44)]) (st := [.inr 44]) (by decide) rfl (by decide) rfl ka_int rfl (fun _ => rfl) ⟨by decide, by decide, by decide⟩ ((zr49 hz).mono (by decide)) ⟨by decide, by decide⟩ hag (by decide) rfl rfl (svC (by decide)) (svD (by decide)) (dkAt dk_X7_init 12 rfl) 24 rfl (cs1 := 3) (sl1 := 27) rfl rfl (fun ad hag => ?_)
  change G (gc Γ KT ad (lC 48)) X (mm49 M) 3 27 [some (.ref (ad 44))] [.ref (ad 47), .ref (ad 44)] 24
  refine x_putFR (C.gc KR.tt ad (lC 48)) hI (kk := some) (rM := (mm50 M)) (fun _ _ => trivial) pkf_RX7_18 ⟨_, rfl⟩ (oc (by decide) (by decide) rfl) (dkAt dk_X7_init 13 rfl) 27 rfl rfl (fun M1 hM => ?_)
  cases hM
  refine x_aload_n (C.gc KR.tt ad (lC 48)) rfl rfl (dkAt dk_X7_init 14 rfl) 28 rfl ?_
  refine x_iconst (C.gc KR.tt ad (lC 48)) (v := (-1 : Int32)) (by decide) (dkAt dk_X7_init 15 rfl) 29 rfl ?_
  refine x_putI (C.gc KR.tt ad (lC 48)) (kk := some) (rM := (mm51 M)) pk_RX7_21 ⟨_, rfl⟩ (oc (by decide) (by decide) rfl) (dkAt dk_X7_init 16 rfl) 32 rfl rfl (fun M1 hM => ?_)
  cases hM
  refine x_aload_n (C.gc KR.tt ad (lC 48)) rfl rfl (dkAt dk_X7_init 17 rfl) 33 rfl ?_
  refine x_bipush (C.gc KR.tt ad (lC 48)) (v := (6 : Int32)) (by decide) (dkAt dk_X7_init 18 rfl) 35 rfl ?_
  refine d_newaC C (ty := .int) (L := [some (.inr 44)]) (st := [.inr 44]) (by decide) rfl (by decide) rfl ka_int rfl (fun _ => rfl) ⟨by decide, by decide, by decide⟩ ((zr51 hz).mono (by decide)) ⟨by decide, by decide⟩ hag (by decide) rfl rfl (svC (by decide)) (svD (by decide)) (dkAt dk_X7_init 19 rfl) 37 rfl (cs1 := 4) (sl1 := 33) rfl rfl (fun ad hag => ?_)
  change G (gc Γ KT ad (lC 49)) X (mm51 M) 4 33 [some (.ref (ad 44))] [.ref (ad 48), .ref (ad 44)] 37
  refine x_putFR (C.gc KR.tt ad (lC 49)) hI (kk := some) (rM := (mm52 M)) (fun _ _ => trivial) pkf_RX7_25 ⟨_, rfl⟩ (oc (by decide) (by decide) rfl) (dkAt dk_X7_init 20 rfl) 40 rfl rfl (fun M1 hM => ?_)
  cases hM
  refine x_aload_n (C.gc KR.tt ad (lC 49)) rfl rfl (dkAt dk_X7_init 21 rfl) 41 rfl ?_
  refine x_iconst (C.gc KR.tt ad (lC 49)) (v := (5 : Int32)) (by decide) (dkAt dk_X7_init 22 rfl) 42 rfl ?_
  refine d_newaC C (ty := .int) (L := [some (.inr 44)]) (st := [.inr 44]) (by decide) rfl (by decide) rfl ka_int rfl (fun _ => rfl) ⟨by decide, by decide, by decide⟩ ((zr52 hz).mono (by decide)) ⟨by decide, by decide⟩ hag (by decide) rfl rfl (svC (by decide)) (svD (by decide)) (dkAt dk_X7_init 23 rfl) 44 rfl (cs1 := 5) (sl1 := 38) rfl rfl (fun ad hag => ?_)
  change G (gc Γ KT ad (lC 50)) X (mm52 M) 5 38 [some (.ref (ad 44))] [.ref (ad 49), .ref (ad 44)] 44
  refine x_putFR (C.gc KR.tt ad (lC 50)) hI (kk := some) (rM := (mm53 M)) (fun _ _ => trivial) pkf_RX7_28 ⟨_, rfl⟩ (oc (by decide) (by decide) rfl) (dkAt dk_X7_init 24 rfl) 47 rfl rfl (fun M1 hM => ?_)
  cases hM
  exact d_vret (K9 := KT) C E hag (fun h => h) (by decide) (by decide) (dkAt dk_X7_init 25 rfl)
set_option maxRecDepth 100000 in
theorem k_X7_init_50 {Γ : WC} {M : Mem} (hG : HG Γ) (hov : va_AO "DecisionChain$Settings" (wU Γ)) (hz : Zc 0 M) : CtD Γ KT KT yX7_init cX7_init 1 none (rmL 1 5 38) (lC 51) (lC 56) [.inr 50] (mm54 M) none (mm60 M) := by
  refine mkD hG (own := RX7) rfl (by decide) (fun _ => Nat.le_of_ble_eq_true rfl) (fun ad0 X C hI0 E => ?_)
  have hI := hI0 rfl
  have hag : agr (lC 51) ad0 ad0 := agr.rfl
  change G (gc Γ KT ad0 (lC 51)) X (mm54 M) 0 0 [some (.ref (ad0 50))] [] 0
  refine x_aload_n (C.gc KR.tt ad0 (lC 51)) rfl rfl (dkAt dk_X7_init 0 rfl) 1 rfl ?_
  refine d_obj C lo_RX7_3 mi_obj cw_obj ⟨by decide, by decide⟩ (by decide) (dkAt dk_X7_init 1 rfl) 4 rfl ?_
  refine x_aload_n (C.gc KR.tt ad0 (lC 51)) rfl rfl (dkAt dk_X7_init 2 rfl) 5 rfl ?_
  refine x_bipush (C.gc KR.tt ad0 (lC 51)) (v := (18 : Int32)) (by decide) (dkAt dk_X7_init 3 rfl) 7 rfl ?_
  refine d_newaC C (ty := .int) (L := [some (.inr 50)]) (st := [.inr 50]) (by decide) rfl (by decide) rfl ka_int rfl (fun _ => rfl) ⟨by decide, by decide, by decide⟩ ((zr54 hz).mono (by decide)) ⟨by decide, by decide⟩ hag (by decide) rfl rfl (svC (by decide)) (svD (by decide)) (dkAt dk_X7_init 4 rfl) 9 rfl (cs1 := 1) (sl1 := 18) rfl rfl (fun ad hag => ?_)
  change G (gc Γ KT ad (lC 52)) X (mm54 M) 1 18 [some (.ref (ad 50))] [.ref (ad 51), .ref (ad 50)] 9
  refine x_putFR (C.gc KR.tt ad (lC 52)) hI (kk := some) (rM := (mm55 M)) (fun _ _ => trivial) pkf_RX7_9 ⟨_, rfl⟩ (oc (by decide) (by decide) rfl) (dkAt dk_X7_init 5 rfl) 12 rfl rfl (fun M1 hM => ?_)
  cases hM
  refine x_aload_n (C.gc KR.tt ad (lC 52)) rfl rfl (dkAt dk_X7_init 6 rfl) 13 rfl ?_
  refine x_bipush (C.gc KR.tt ad (lC 52)) (v := (6 : Int32)) (by decide) (dkAt dk_X7_init 7 rfl) 15 rfl ?_
  refine d_newaC C (ty := .int) (L := [some (.inr 50)]) (st := [.inr 50]) (by decide) rfl (by decide) rfl ka_int rfl (fun _ => rfl) ⟨by decide, by decide, by decide⟩ ((zr55 hz).mono (by decide)) ⟨by decide, by decide⟩ hag (by decide) rfl rfl (svC (by decide)) (svD (by decide)) (dkAt dk_X7_init 8 rfl) 17 rfl (cs1 := 2) (sl1 := 24) rfl rfl (fun ad hag => ?_)
  change G (gc Γ KT ad (lC 53)) X (mm55 M) 2 24 [some (.ref (ad 50))] [.ref (ad 52), .ref (ad 50)] 17
  refine x_putFR (C.gc KR.tt ad (lC 53)) hI (kk := some) (rM := (mm56 M)) (fun _ _ => trivial) pkf_RX7_15 ⟨_, rfl⟩ (oc (by decide) (by decide) rfl) (dkAt dk_X7_init 9 rfl) 20 rfl rfl (fun M1 hM => ?_)
  cases hM
  refine x_aload_n (C.gc KR.tt ad (lC 53)) rfl rfl (dkAt dk_X7_init 10 rfl) 21 rfl ?_
  refine x_iconst (C.gc KR.tt ad (lC 53)) (v := (3 : Int32)) (by decide) (dkAt dk_X7_init 11 rfl) 22 rfl ?_
  refine d_newaC C (ty := .int) (L := [some (.inr 50)]) (st := [.inr 50]) (by decide) rfl (by decide) rfl ka_int rfl (fun _ => rfl) ⟨by decide, by decide, by decide⟩ ((zr56 hz).mono (by decide)) ⟨by decide, by decide⟩ hag (by decide) rfl rfl (svC (by decide)) (svD (by decide)) (dkAt dk_X7_init 12 rfl) 24 rfl (cs1 := 3) (sl1 := 27) rfl rfl (fun ad hag => ?_)
  change G (gc Γ KT ad (lC 54)) X (mm56 M) 3 27 [some (.ref (ad 50))] [.ref (ad 53), .ref (ad 50)] 24
  refine x_putFR (C.gc KR.tt ad (lC 54)) hI (kk := some) (rM := (mm57 M)) (fun _ _ => trivial) pkf_RX7_18 ⟨_, rfl⟩ (oc (by decide) (by decide) rfl) (dkAt dk_X7_init 13 rfl) 27 rfl rfl (fun M1 hM => ?_)
  cases hM
  refine x_aload_n (C.gc KR.tt ad (lC 54)) rfl rfl (dkAt dk_X7_init 14 rfl) 28 rfl ?_
  refine x_iconst (C.gc KR.tt ad (lC 54)) (v := (-1 : Int32)) (by decide) (dkAt dk_X7_init 15 rfl) 29 rfl ?_
  refine x_putI (C.gc KR.tt ad (lC 54)) (kk := some) (rM := (mm58 M)) pk_RX7_21 ⟨_, rfl⟩ (oc (by decide) (by decide) rfl) (dkAt dk_X7_init 16 rfl) 32 rfl rfl (fun M1 hM => ?_)
  cases hM
  refine x_aload_n (C.gc KR.tt ad (lC 54)) rfl rfl (dkAt dk_X7_init 17 rfl) 33 rfl ?_
  refine x_bipush (C.gc KR.tt ad (lC 54)) (v := (6 : Int32)) (by decide) (dkAt dk_X7_init 18 rfl) 35 rfl ?_
  refine d_newaC C (ty := .int) (L := [some (.inr 50)]) (st := [.inr 50]) (by decide) rfl (by decide) rfl ka_int rfl (fun _ => rfl) ⟨by decide, by decide, by decide⟩ ((zr58 hz).mono (by decide)) ⟨by decide, by decide⟩ hag (by decide) rfl rfl (svC (by decide)) (svD (by decide)) (dkAt dk_X7_init 19 rfl) 37 rfl (cs1 := 4) (sl1 := 33) rfl rfl (fun ad hag => ?_)
  change G (gc Γ KT ad (lC 55)) X (mm58 M) 4 33 [some (.ref (ad 50))] [.ref (ad 54), .ref (ad 50)] 37
  refine x_putFR (C.gc KR.tt ad (lC 55)) hI (kk := some) (rM := (mm59 M)) (fun _ _ => trivial) pkf_RX7_25 ⟨_, rfl⟩ (oc (by decide) (by decide) rfl) (dkAt dk_X7_init 20 rfl) 40 rfl rfl (fun M1 hM => ?_)
  cases hM
  refine x_aload_n (C.gc KR.tt ad (lC 55)) rfl rfl (dkAt dk_X7_init 21 rfl) 41 rfl ?_
  refine x_iconst (C.gc KR.tt ad (lC 55)) (v := (5 : Int32)) (by decide) (dkAt dk_X7_init 22 rfl) 42 rfl ?_
  refine d_newaC C (ty := .int) (L := [some (.inr 50)]) (st := [.inr 50]) (by decide) rfl (by decide) rfl ka_int rfl (fun _ => rfl) ⟨by decide, by decide, by decide⟩ ((zr59 hz).mono (by decide)) ⟨by decide, by decide⟩ hag (by decide) rfl rfl (svC (by decide)) (svD (by decide)) (dkAt dk_X7_init 23 rfl) 44 rfl (cs1 := 5) (sl1 := 38) rfl rfl (fun ad hag => ?_)
  change G (gc Γ KT ad (lC 56)) X (mm59 M) 5 38 [some (.ref (ad 50))] [.ref (ad 55), .ref (ad 50)] 44
  refine x_putFR (C.gc KR.tt ad (lC 56)) hI (kk := some) (rM := (mm60 M)) (fun _ _ => trivial) pkf_RX7_28 ⟨_, rfl⟩ (oc (by decide) (by decide) rfl) (dkAt dk_X7_init 24 rfl) 47 rfl rfl (fun M1 hM => ?_)
  cases hM
  exact d_vret (K9 := KT) C E hag (fun h => h) (by decide) (by decide) (dkAt dk_X7_init 25 rfl)
set_option maxRecDepth 100000 in
theorem k_X7_init_56 {Γ : WC} {M : Mem} (hG : HG Γ) (hov : va_AO "DecisionChain$Settings" (wU Γ)) (hz : Zc 0 M) : CtD Γ KT KT yX7_init cX7_init 1 none (rmL 1 5 38) (lC 57) (lC 62) [.inr 56] (mm61 M) none (mm67 M) := by
  refine mkD hG (own := RX7) rfl (by decide) (fun _ => Nat.le_of_ble_eq_true rfl) (fun ad0 X C hI0 E => ?_)
  have hI := hI0 rfl
  have hag : agr (lC 57) ad0 ad0 := agr.rfl
  change G (gc Γ KT ad0 (lC 57)) X (mm61 M) 0 0 [some (.ref (ad0 56))] [] 0
  refine x_aload_n (C.gc KR.tt ad0 (lC 57)) rfl rfl (dkAt dk_X7_init 0 rfl) 1 rfl ?_
  refine d_obj C lo_RX7_3 mi_obj cw_obj ⟨by decide, by decide⟩ (by decide) (dkAt dk_X7_init 1 rfl) 4 rfl ?_
  refine x_aload_n (C.gc KR.tt ad0 (lC 57)) rfl rfl (dkAt dk_X7_init 2 rfl) 5 rfl ?_
  refine x_bipush (C.gc KR.tt ad0 (lC 57)) (v := (18 : Int32)) (by decide) (dkAt dk_X7_init 3 rfl) 7 rfl ?_
  refine d_newaC C (ty := .int) (L := [some (.inr 56)]) (st := [.inr 56]) (by decide) rfl (by decide) rfl ka_int rfl (fun _ => rfl) ⟨by decide, by decide, by decide⟩ ((zr61 hz).mono (by decide)) ⟨by decide, by decide⟩ hag (by decide) rfl rfl (svC (by decide)) (svD (by decide)) (dkAt dk_X7_init 4 rfl) 9 rfl (cs1 := 1) (sl1 := 18) rfl rfl (fun ad hag => ?_)
  change G (gc Γ KT ad (lC 58)) X (mm61 M) 1 18 [some (.ref (ad 56))] [.ref (ad 57), .ref (ad 56)] 9
  refine x_putFR (C.gc KR.tt ad (lC 58)) hI (kk := some) (rM := (mm62 M)) (fun _ _ => trivial) pkf_RX7_9 ⟨_, rfl⟩ (oc (by decide) (by decide) rfl) (dkAt dk_X7_init 5 rfl) 12 rfl rfl (fun M1 hM => ?_)
  cases hM
  refine x_aload_n (C.gc KR.tt ad (lC 58)) rfl rfl (dkAt dk_X7_init 6 rfl) 13 rfl ?_
  refine x_bipush (C.gc KR.tt ad (lC 58)) (v := (6 : Int32)) (by decide) (dkAt dk_X7_init 7 rfl) 15 rfl ?_
  refine d_newaC C (ty := .int) (L := [some (.inr 56)]) (st := [.inr 56]) (by decide) rfl (by decide) rfl ka_int rfl (fun _ => rfl) ⟨by decide, by decide, by decide⟩ ((zr62 hz).mono (by decide)) ⟨by decide, by decide⟩ hag (by decide) rfl rfl (svC (by decide)) (svD (by decide)) (dkAt dk_X7_init 8 rfl) 17 rfl (cs1 := 2) (sl1 := 24) rfl rfl (fun ad hag => ?_)
  change G (gc Γ KT ad (lC 59)) X (mm62 M) 2 24 [some (.ref (ad 56))] [.ref (ad 58), .ref (ad 56)] 17
  refine x_putFR (C.gc KR.tt ad (lC 59)) hI (kk := some) (rM := (mm63 M)) (fun _ _ => trivial) pkf_RX7_15 ⟨_, rfl⟩ (oc (by decide) (by decide) rfl) (dkAt dk_X7_init 9 rfl) 20 rfl rfl (fun M1 hM => ?_)
  cases hM
  refine x_aload_n (C.gc KR.tt ad (lC 59)) rfl rfl (dkAt dk_X7_init 10 rfl) 21 rfl ?_
  refine x_iconst (C.gc KR.tt ad (lC 59)) (v := (3 : Int32)) (by decide) (dkAt dk_X7_init 11 rfl) 22 rfl ?_
  refine d_newaC C (ty := .int) (L := [some (.inr 56)]) (st := [.inr 56]) (by decide) rfl (by decide) rfl ka_int rfl (fun _ => rfl) ⟨by decide, by decide, by decide⟩ ((zr63 hz).mono (by decide)) ⟨by decide, by decide⟩ hag (by decide) rfl rfl (svC (by decide)) (svD (by decide)) (dkAt dk_X7_init 12 rfl) 24 rfl (cs1 := 3) (sl1 := 27) rfl rfl (fun ad hag => ?_)
  change G (gc Γ KT ad (lC 60)) X (mm63 M) 3 27 [some (.ref (ad 56))] [.ref (ad 59), .ref (ad 56)] 24
  refine x_putFR (C.gc KR.tt ad (lC 60)) hI (kk := some) (rM := (mm64 M)) (fun _ _ => trivial) pkf_RX7_18 ⟨_, rfl⟩ (oc (by decide) (by decide) rfl) (dkAt dk_X7_init 13 rfl) 27 rfl rfl (fun M1 hM => ?_)
  cases hM
  refine x_aload_n (C.gc KR.tt ad (lC 60)) rfl rfl (dkAt dk_X7_init 14 rfl) 28 rfl ?_
  refine x_iconst (C.gc KR.tt ad (lC 60)) (v := (-1 : Int32)) (by decide) (dkAt dk_X7_init 15 rfl) 29 rfl ?_
  refine x_putI (C.gc KR.tt ad (lC 60)) (kk := some) (rM := (mm65 M)) pk_RX7_21 ⟨_, rfl⟩ (oc (by decide) (by decide) rfl) (dkAt dk_X7_init 16 rfl) 32 rfl rfl (fun M1 hM => ?_)
  cases hM
  refine x_aload_n (C.gc KR.tt ad (lC 60)) rfl rfl (dkAt dk_X7_init 17 rfl) 33 rfl ?_
  refine x_bipush (C.gc KR.tt ad (lC 60)) (v := (6 : Int32)) (by decide) (dkAt dk_X7_init 18 rfl) 35 rfl ?_
  refine d_newaC C (ty := .int) (L := [some (.inr 56)]) (st := [.inr 56]) (by decide) rfl (by decide) rfl ka_int rfl (fun _ => rfl) ⟨by decide, by decide, by decide⟩ ((zr65 hz).mono (by decide)) ⟨by decide, by decide⟩ hag (by decide) rfl rfl (svC (by decide)) (svD (by decide)) (dkAt dk_X7_init 19 rfl) 37 rfl (cs1 := 4) (sl1 := 33) rfl rfl (fun ad hag => ?_)
  change G (gc Γ KT ad (lC 61)) X (mm65 M) 4 33 [some (.ref (ad 56))] [.ref (ad 60), .ref (ad 56)] 37
  refine x_putFR (C.gc KR.tt ad (lC 61)) hI (kk := some) (rM := (mm66 M)) (fun _ _ => trivial) pkf_RX7_25 ⟨_, rfl⟩ (oc (by decide) (by decide) rfl) (dkAt dk_X7_init 20 rfl) 40 rfl rfl (fun M1 hM => ?_)
  cases hM
  refine x_aload_n (C.gc KR.tt ad (lC 61)) rfl rfl (dkAt dk_X7_init 21 rfl) 41 rfl ?_
  refine x_iconst (C.gc KR.tt ad (lC 61)) (v := (5 : Int32)) (by decide) (dkAt dk_X7_init 22 rfl) 42 rfl ?_
  refine d_newaC C (ty := .int) (L := [some (.inr 56)]) (st := [.inr 56]) (by decide) rfl (by decide) rfl ka_int rfl (fun _ => rfl) ⟨by decide, by decide, by decide⟩ ((zr66 hz).mono (by decide)) ⟨by decide, by decide⟩ hag (by decide) rfl rfl (svC (by decide)) (svD (by decide)) (dkAt dk_X7_init 23 rfl) 44 rfl (cs1 := 5) (sl1 := 38) rfl rfl (fun ad hag => ?_)
  change G (gc Γ KT ad (lC 62)) X (mm66 M) 5 38 [some (.ref (ad 56))] [.ref (ad 61), .ref (ad 56)] 44
  refine x_putFR (C.gc KR.tt ad (lC 62)) hI (kk := some) (rM := (mm67 M)) (fun _ _ => trivial) pkf_RX7_28 ⟨_, rfl⟩ (oc (by decide) (by decide) rfl) (dkAt dk_X7_init 24 rfl) 47 rfl rfl (fun M1 hM => ?_)
  cases hM
  exact d_vret (K9 := KT) C E hag (fun h => h) (by decide) (by decide) (dkAt dk_X7_init 25 rfl)
set_option maxRecDepth 100000 in
theorem k_X7_init_62 {Γ : WC} {M : Mem} (hG : HG Γ) (hov : va_AO "DecisionChain$Settings" (wU Γ)) (hz : Zc 0 M) : CtD Γ KT KT yX7_init cX7_init 1 none (rmL 1 5 38) (lC 63) (lC 68) [.inr 62] (mm68 M) none (mm74 M) := by
  refine mkD hG (own := RX7) rfl (by decide) (fun _ => Nat.le_of_ble_eq_true rfl) (fun ad0 X C hI0 E => ?_)
  have hI := hI0 rfl
  have hag : agr (lC 63) ad0 ad0 := agr.rfl
  change G (gc Γ KT ad0 (lC 63)) X (mm68 M) 0 0 [some (.ref (ad0 62))] [] 0
  refine x_aload_n (C.gc KR.tt ad0 (lC 63)) rfl rfl (dkAt dk_X7_init 0 rfl) 1 rfl ?_
  refine d_obj C lo_RX7_3 mi_obj cw_obj ⟨by decide, by decide⟩ (by decide) (dkAt dk_X7_init 1 rfl) 4 rfl ?_
  refine x_aload_n (C.gc KR.tt ad0 (lC 63)) rfl rfl (dkAt dk_X7_init 2 rfl) 5 rfl ?_
  refine x_bipush (C.gc KR.tt ad0 (lC 63)) (v := (18 : Int32)) (by decide) (dkAt dk_X7_init 3 rfl) 7 rfl ?_
  refine d_newaC C (ty := .int) (L := [some (.inr 62)]) (st := [.inr 62]) (by decide) rfl (by decide) rfl ka_int rfl (fun _ => rfl) ⟨by decide, by decide, by decide⟩ ((zr68 hz).mono (by decide)) ⟨by decide, by decide⟩ hag (by decide) rfl rfl (svC (by decide)) (svD (by decide)) (dkAt dk_X7_init 4 rfl) 9 rfl (cs1 := 1) (sl1 := 18) rfl rfl (fun ad hag => ?_)
  change G (gc Γ KT ad (lC 64)) X (mm68 M) 1 18 [some (.ref (ad 62))] [.ref (ad 63), .ref (ad 62)] 9
  refine x_putFR (C.gc KR.tt ad (lC 64)) hI (kk := some) (rM := (mm69 M)) (fun _ _ => trivial) pkf_RX7_9 ⟨_, rfl⟩ (oc (by decide) (by decide) rfl) (dkAt dk_X7_init 5 rfl) 12 rfl rfl (fun M1 hM => ?_)
  cases hM
  refine x_aload_n (C.gc KR.tt ad (lC 64)) rfl rfl (dkAt dk_X7_init 6 rfl) 13 rfl ?_
  refine x_bipush (C.gc KR.tt ad (lC 64)) (v := (6 : Int32)) (by decide) (dkAt dk_X7_init 7 rfl) 15 rfl ?_
  refine d_newaC C (ty := .int) (L := [some (.inr 62)]) (st := [.inr 62]) (by decide) rfl (by decide) rfl ka_int rfl (fun _ => rfl) ⟨by decide, by decide, by decide⟩ ((zr69 hz).mono (by decide)) ⟨by decide, by decide⟩ hag (by decide) rfl rfl (svC (by decide)) (svD (by decide)) (dkAt dk_X7_init 8 rfl) 17 rfl (cs1 := 2) (sl1 := 24) rfl rfl (fun ad hag => ?_)
  change G (gc Γ KT ad (lC 65)) X (mm69 M) 2 24 [some (.ref (ad 62))] [.ref (ad 64), .ref (ad 62)] 17
  refine x_putFR (C.gc KR.tt ad (lC 65)) hI (kk := some) (rM := (mm70 M)) (fun _ _ => trivial) pkf_RX7_15 ⟨_, rfl⟩ (oc (by decide) (by decide) rfl) (dkAt dk_X7_init 9 rfl) 20 rfl rfl (fun M1 hM => ?_)
  cases hM
  refine x_aload_n (C.gc KR.tt ad (lC 65)) rfl rfl (dkAt dk_X7_init 10 rfl) 21 rfl ?_
  refine x_iconst (C.gc KR.tt ad (lC 65)) (v := (3 : Int32)) (by decide) (dkAt dk_X7_init 11 rfl) 22 rfl ?_
  refine d_newaC C (ty := .int) (L := [some (.inr 62)]) (st := [.inr 62]) (by decide) rfl (by decide) rfl ka_int rfl (fun _ => rfl) ⟨by decide, by decide, by decide⟩ ((zr70 hz).mono (by decide)) ⟨by decide, by decide⟩ hag (by decide) rfl rfl (svC (by decide)) (svD (by decide)) (dkAt dk_X7_init 12 rfl) 24 rfl (cs1 := 3) (sl1 := 27) rfl rfl (fun ad hag => ?_)
  change G (gc Γ KT ad (lC 66)) X (mm70 M) 3 27 [some (.ref (ad 62))] [.ref (ad 65), .ref (ad 62)] 24
  refine x_putFR (C.gc KR.tt ad (lC 66)) hI (kk := some) (rM := (mm71 M)) (fun _ _ => trivial) pkf_RX7_18 ⟨_, rfl⟩ (oc (by decide) (by decide) rfl) (dkAt dk_X7_init 13 rfl) 27 rfl rfl (fun M1 hM => ?_)
  cases hM
  refine x_aload_n (C.gc KR.tt ad (lC 66)) rfl rfl (dkAt dk_X7_init 14 rfl) 28 rfl ?_
  refine x_iconst (C.gc KR.tt ad (lC 66)) (v := (-1 : Int32)) (by decide) (dkAt dk_X7_init 15 rfl) 29 rfl ?_
  refine x_putI (C.gc KR.tt ad (lC 66)) (kk := some) (rM := (mm72 M)) pk_RX7_21 ⟨_, rfl⟩ (oc (by decide) (by decide) rfl) (dkAt dk_X7_init 16 rfl) 32 rfl rfl (fun M1 hM => ?_)
  cases hM
  refine x_aload_n (C.gc KR.tt ad (lC 66)) rfl rfl (dkAt dk_X7_init 17 rfl) 33 rfl ?_
  refine x_bipush (C.gc KR.tt ad (lC 66)) (v := (6 : Int32)) (by decide) (dkAt dk_X7_init 18 rfl) 35 rfl ?_
  refine d_newaC C (ty := .int) (L := [some (.inr 62)]) (st := [.inr 62]) (by decide) rfl (by decide) rfl ka_int rfl (fun _ => rfl) ⟨by decide, by decide, by decide⟩ ((zr72 hz).mono (by decide)) ⟨by decide, by decide⟩ hag (by decide) rfl rfl (svC (by decide)) (svD (by decide)) (dkAt dk_X7_init 19 rfl) 37 rfl (cs1 := 4) (sl1 := 33) rfl rfl (fun ad hag => ?_)
  change G (gc Γ KT ad (lC 67)) X (mm72 M) 4 33 [some (.ref (ad 62))] [.ref (ad 66), .ref (ad 62)] 37
  refine x_putFR (C.gc KR.tt ad (lC 67)) hI (kk := some) (rM := (mm73 M)) (fun _ _ => trivial) pkf_RX7_25 ⟨_, rfl⟩ (oc (by decide) (by decide) rfl) (dkAt dk_X7_init 20 rfl) 40 rfl rfl (fun M1 hM => ?_)
  cases hM
  refine x_aload_n (C.gc KR.tt ad (lC 67)) rfl rfl (dkAt dk_X7_init 21 rfl) 41 rfl ?_
  refine x_iconst (C.gc KR.tt ad (lC 67)) (v := (5 : Int32)) (by decide) (dkAt dk_X7_init 22 rfl) 42 rfl ?_
  refine d_newaC C (ty := .int) (L := [some (.inr 62)]) (st := [.inr 62]) (by decide) rfl (by decide) rfl ka_int rfl (fun _ => rfl) ⟨by decide, by decide, by decide⟩ ((zr73 hz).mono (by decide)) ⟨by decide, by decide⟩ hag (by decide) rfl rfl (svC (by decide)) (svD (by decide)) (dkAt dk_X7_init 23 rfl) 44 rfl (cs1 := 5) (sl1 := 38) rfl rfl (fun ad hag => ?_)
  change G (gc Γ KT ad (lC 68)) X (mm73 M) 5 38 [some (.ref (ad 62))] [.ref (ad 67), .ref (ad 62)] 44
  refine x_putFR (C.gc KR.tt ad (lC 68)) hI (kk := some) (rM := (mm74 M)) (fun _ _ => trivial) pkf_RX7_28 ⟨_, rfl⟩ (oc (by decide) (by decide) rfl) (dkAt dk_X7_init 24 rfl) 47 rfl rfl (fun M1 hM => ?_)
  cases hM
  exact d_vret (K9 := KT) C E hag (fun h => h) (by decide) (by decide) (dkAt dk_X7_init 25 rfl)
set_option maxRecDepth 100000 in
theorem k_X7_init_68 {Γ : WC} {M : Mem} (hG : HG Γ) (hov : va_AO "DecisionChain$Settings" (wU Γ)) (hz : Zc 0 M) : CtD Γ KT KT yX7_init cX7_init 1 none (rmL 1 5 38) (lC 69) (lC 74) [.inr 68] (mm75 M) none (mm81 M) := by
  refine mkD hG (own := RX7) rfl (by decide) (fun _ => Nat.le_of_ble_eq_true rfl) (fun ad0 X C hI0 E => ?_)
  have hI := hI0 rfl
  have hag : agr (lC 69) ad0 ad0 := agr.rfl
  change G (gc Γ KT ad0 (lC 69)) X (mm75 M) 0 0 [some (.ref (ad0 68))] [] 0
  refine x_aload_n (C.gc KR.tt ad0 (lC 69)) rfl rfl (dkAt dk_X7_init 0 rfl) 1 rfl ?_
  refine d_obj C lo_RX7_3 mi_obj cw_obj ⟨by decide, by decide⟩ (by decide) (dkAt dk_X7_init 1 rfl) 4 rfl ?_
  refine x_aload_n (C.gc KR.tt ad0 (lC 69)) rfl rfl (dkAt dk_X7_init 2 rfl) 5 rfl ?_
  refine x_bipush (C.gc KR.tt ad0 (lC 69)) (v := (18 : Int32)) (by decide) (dkAt dk_X7_init 3 rfl) 7 rfl ?_
  refine d_newaC C (ty := .int) (L := [some (.inr 68)]) (st := [.inr 68]) (by decide) rfl (by decide) rfl ka_int rfl (fun _ => rfl) ⟨by decide, by decide, by decide⟩ ((zr75 hz).mono (by decide)) ⟨by decide, by decide⟩ hag (by decide) rfl rfl (svC (by decide)) (svD (by decide)) (dkAt dk_X7_init 4 rfl) 9 rfl (cs1 := 1) (sl1 := 18) rfl rfl (fun ad hag => ?_)
  change G (gc Γ KT ad (lC 70)) X (mm75 M) 1 18 [some (.ref (ad 68))] [.ref (ad 69), .ref (ad 68)] 9
  refine x_putFR (C.gc KR.tt ad (lC 70)) hI (kk := some) (rM := (mm76 M)) (fun _ _ => trivial) pkf_RX7_9 ⟨_, rfl⟩ (oc (by decide) (by decide) rfl) (dkAt dk_X7_init 5 rfl) 12 rfl rfl (fun M1 hM => ?_)
  cases hM
  refine x_aload_n (C.gc KR.tt ad (lC 70)) rfl rfl (dkAt dk_X7_init 6 rfl) 13 rfl ?_
  refine x_bipush (C.gc KR.tt ad (lC 70)) (v := (6 : Int32)) (by decide) (dkAt dk_X7_init 7 rfl) 15 rfl ?_
  refine d_newaC C (ty := .int) (L := [some (.inr 68)]) (st := [.inr 68]) (by decide) rfl (by decide) rfl ka_int rfl (fun _ => rfl) ⟨by decide, by decide, by decide⟩ ((zr76 hz).mono (by decide)) ⟨by decide, by decide⟩ hag (by decide) rfl rfl (svC (by decide)) (svD (by decide)) (dkAt dk_X7_init 8 rfl) 17 rfl (cs1 := 2) (sl1 := 24) rfl rfl (fun ad hag => ?_)
  change G (gc Γ KT ad (lC 71)) X (mm76 M) 2 24 [some (.ref (ad 68))] [.ref (ad 70), .ref (ad 68)] 17
  refine x_putFR (C.gc KR.tt ad (lC 71)) hI (kk := some) (rM := (mm77 M)) (fun _ _ => trivial) pkf_RX7_15 ⟨_, rfl⟩ (oc (by decide) (by decide) rfl) (dkAt dk_X7_init 9 rfl) 20 rfl rfl (fun M1 hM => ?_)
  cases hM
  refine x_aload_n (C.gc KR.tt ad (lC 71)) rfl rfl (dkAt dk_X7_init 10 rfl) 21 rfl ?_
  refine x_iconst (C.gc KR.tt ad (lC 71)) (v := (3 : Int32)) (by decide) (dkAt dk_X7_init 11 rfl) 22 rfl ?_
  refine d_newaC C (ty := .int) (L := [some (.inr 68)]) (st := [.inr 68]) (by decide) rfl (by decide) rfl ka_int rfl (fun _ => rfl) ⟨by decide, by decide, by decide⟩ ((zr77 hz).mono (by decide)) ⟨by decide, by decide⟩ hag (by decide) rfl rfl (svC (by decide)) (svD (by decide)) (dkAt dk_X7_init 12 rfl) 24 rfl (cs1 := 3) (sl1 := 27) rfl rfl (fun ad hag => ?_)
  change G (gc Γ KT ad (lC 72)) X (mm77 M) 3 27 [some (.ref (ad 68))] [.ref (ad 71), .ref (ad 68)] 24
  refine x_putFR (C.gc KR.tt ad (lC 72)) hI (kk := some) (rM := (mm78 M)) (fun _ _ => trivial) pkf_RX7_18 ⟨_, rfl⟩ (oc (by decide) (by decide) rfl) (dkAt dk_X7_init 13 rfl) 27 rfl rfl (fun M1 hM => ?_)
  cases hM
  refine x_aload_n (C.gc KR.tt ad (lC 72)) rfl rfl (dkAt dk_X7_init 14 rfl) 28 rfl ?_
  refine x_iconst (C.gc KR.tt ad (lC 72)) (v := (-1 : Int32)) (by decide) (dkAt dk_X7_init 15 rfl) 29 rfl ?_
  refine x_putI (C.gc KR.tt ad (lC 72)) (kk := some) (rM := (mm79 M)) pk_RX7_21 ⟨_, rfl⟩ (oc (by decide) (by decide) rfl) (dkAt dk_X7_init 16 rfl) 32 rfl rfl (fun M1 hM => ?_)
  cases hM
  refine x_aload_n (C.gc KR.tt ad (lC 72)) rfl rfl (dkAt dk_X7_init 17 rfl) 33 rfl ?_
  refine x_bipush (C.gc KR.tt ad (lC 72)) (v := (6 : Int32)) (by decide) (dkAt dk_X7_init 18 rfl) 35 rfl ?_
  refine d_newaC C (ty := .int) (L := [some (.inr 68)]) (st := [.inr 68]) (by decide) rfl (by decide) rfl ka_int rfl (fun _ => rfl) ⟨by decide, by decide, by decide⟩ ((zr79 hz).mono (by decide)) ⟨by decide, by decide⟩ hag (by decide) rfl rfl (svC (by decide)) (svD (by decide)) (dkAt dk_X7_init 19 rfl) 37 rfl (cs1 := 4) (sl1 := 33) rfl rfl (fun ad hag => ?_)
  change G (gc Γ KT ad (lC 73)) X (mm79 M) 4 33 [some (.ref (ad 68))] [.ref (ad 72), .ref (ad 68)] 37
  refine x_putFR (C.gc KR.tt ad (lC 73)) hI (kk := some) (rM := (mm80 M)) (fun _ _ => trivial) pkf_RX7_25 ⟨_, rfl⟩ (oc (by decide) (by decide) rfl) (dkAt dk_X7_init 20 rfl) 40 rfl rfl (fun M1 hM => ?_)
  cases hM
  refine x_aload_n (C.gc KR.tt ad (lC 73)) rfl rfl (dkAt dk_X7_init 21 rfl) 41 rfl ?_
  refine x_iconst (C.gc KR.tt ad (lC 73)) (v := (5 : Int32)) (by decide) (dkAt dk_X7_init 22 rfl) 42 rfl ?_
  refine d_newaC C (ty := .int) (L := [some (.inr 68)]) (st := [.inr 68]) (by decide) rfl (by decide) rfl ka_int rfl (fun _ => rfl) ⟨by decide, by decide, by decide⟩ ((zr80 hz).mono (by decide)) ⟨by decide, by decide⟩ hag (by decide) rfl rfl (svC (by decide)) (svD (by decide)) (dkAt dk_X7_init 23 rfl) 44 rfl (cs1 := 5) (sl1 := 38) rfl rfl (fun ad hag => ?_)
  change G (gc Γ KT ad (lC 74)) X (mm80 M) 5 38 [some (.ref (ad 68))] [.ref (ad 73), .ref (ad 68)] 44
  refine x_putFR (C.gc KR.tt ad (lC 74)) hI (kk := some) (rM := (mm81 M)) (fun _ _ => trivial) pkf_RX7_28 ⟨_, rfl⟩ (oc (by decide) (by decide) rfl) (dkAt dk_X7_init 24 rfl) 47 rfl rfl (fun M1 hM => ?_)
  cases hM
  exact d_vret (K9 := KT) C E hag (fun h => h) (by decide) (by decide) (dkAt dk_X7_init 25 rfl)
set_option maxRecDepth 100000 in
theorem k_X7_init_74 {Γ : WC} {M : Mem} (hG : HG Γ) (hov : va_AO "DecisionChain$Settings" (wU Γ)) (hz : Zc 0 M) : CtD Γ KT KT yX7_init cX7_init 1 none (rmL 1 5 38) (lC 75) (lC 80) [.inr 74] (mm82 M) none (mm88 M) := by
  refine mkD hG (own := RX7) rfl (by decide) (fun _ => Nat.le_of_ble_eq_true rfl) (fun ad0 X C hI0 E => ?_)
  have hI := hI0 rfl
  have hag : agr (lC 75) ad0 ad0 := agr.rfl
  change G (gc Γ KT ad0 (lC 75)) X (mm82 M) 0 0 [some (.ref (ad0 74))] [] 0
  refine x_aload_n (C.gc KR.tt ad0 (lC 75)) rfl rfl (dkAt dk_X7_init 0 rfl) 1 rfl ?_
  refine d_obj C lo_RX7_3 mi_obj cw_obj ⟨by decide, by decide⟩ (by decide) (dkAt dk_X7_init 1 rfl) 4 rfl ?_
  refine x_aload_n (C.gc KR.tt ad0 (lC 75)) rfl rfl (dkAt dk_X7_init 2 rfl) 5 rfl ?_
  refine x_bipush (C.gc KR.tt ad0 (lC 75)) (v := (18 : Int32)) (by decide) (dkAt dk_X7_init 3 rfl) 7 rfl ?_
  refine d_newaC C (ty := .int) (L := [some (.inr 74)]) (st := [.inr 74]) (by decide) rfl (by decide) rfl ka_int rfl (fun _ => rfl) ⟨by decide, by decide, by decide⟩ ((zr82 hz).mono (by decide)) ⟨by decide, by decide⟩ hag (by decide) rfl rfl (svC (by decide)) (svD (by decide)) (dkAt dk_X7_init 4 rfl) 9 rfl (cs1 := 1) (sl1 := 18) rfl rfl (fun ad hag => ?_)
  change G (gc Γ KT ad (lC 76)) X (mm82 M) 1 18 [some (.ref (ad 74))] [.ref (ad 75), .ref (ad 74)] 9
  refine x_putFR (C.gc KR.tt ad (lC 76)) hI (kk := some) (rM := (mm83 M)) (fun _ _ => trivial) pkf_RX7_9 ⟨_, rfl⟩ (oc (by decide) (by decide) rfl) (dkAt dk_X7_init 5 rfl) 12 rfl rfl (fun M1 hM => ?_)
  cases hM
  refine x_aload_n (C.gc KR.tt ad (lC 76)) rfl rfl (dkAt dk_X7_init 6 rfl) 13 rfl ?_
  refine x_bipush (C.gc KR.tt ad (lC 76)) (v := (6 : Int32)) (by decide) (dkAt dk_X7_init 7 rfl) 15 rfl ?_
  refine d_newaC C (ty := .int) (L := [some (.inr 74)]) (st := [.inr 74]) (by decide) rfl (by decide) rfl ka_int rfl (fun _ => rfl) ⟨by decide, by decide, by decide⟩ ((zr83 hz).mono (by decide)) ⟨by decide, by decide⟩ hag (by decide) rfl rfl (svC (by decide)) (svD (by decide)) (dkAt dk_X7_init 8 rfl) 17 rfl (cs1 := 2) (sl1 := 24) rfl rfl (fun ad hag => ?_)
  change G (gc Γ KT ad (lC 77)) X (mm83 M) 2 24 [some (.ref (ad 74))] [.ref (ad 76), .ref (ad 74)] 17
  refine x_putFR (C.gc KR.tt ad (lC 77)) hI (kk := some) (rM := (mm84 M)) (fun _ _ => trivial) pkf_RX7_15 ⟨_, rfl⟩ (oc (by decide) (by decide) rfl) (dkAt dk_X7_init 9 rfl) 20 rfl rfl (fun M1 hM => ?_)
  cases hM
  refine x_aload_n (C.gc KR.tt ad (lC 77)) rfl rfl (dkAt dk_X7_init 10 rfl) 21 rfl ?_
  refine x_iconst (C.gc KR.tt ad (lC 77)) (v := (3 : Int32)) (by decide) (dkAt dk_X7_init 11 rfl) 22 rfl ?_
  refine d_newaC C (ty := .int) (L := [some (.inr 74)]) (st := [.inr 74]) (by decide) rfl (by decide) rfl ka_int rfl (fun _ => rfl) ⟨by decide, by decide, by decide⟩ ((zr84 hz).mono (by decide)) ⟨by decide, by decide⟩ hag (by decide) rfl rfl (svC (by decide)) (svD (by decide)) (dkAt dk_X7_init 12 rfl) 24 rfl (cs1 := 3) (sl1 := 27) rfl rfl (fun ad hag => ?_)
  change G (gc Γ KT ad (lC 78)) X (mm84 M) 3 27 [some (.ref (ad 74))] [.ref (ad 77), .ref (ad 74)] 24
  refine x_putFR (C.gc KR.tt ad (lC 78)) hI (kk := some) (rM := (mm85 M)) (fun _ _ => trivial) pkf_RX7_18 ⟨_, rfl⟩ (oc (by decide) (by decide) rfl) (dkAt dk_X7_init 13 rfl) 27 rfl rfl (fun M1 hM => ?_)
  cases hM
  refine x_aload_n (C.gc KR.tt ad (lC 78)) rfl rfl (dkAt dk_X7_init 14 rfl) 28 rfl ?_
  refine x_iconst (C.gc KR.tt ad (lC 78)) (v := (-1 : Int32)) (by decide) (dkAt dk_X7_init 15 rfl) 29 rfl ?_
  refine x_putI (C.gc KR.tt ad (lC 78)) (kk := some) (rM := (mm86 M)) pk_RX7_21 ⟨_, rfl⟩ (oc (by decide) (by decide) rfl) (dkAt dk_X7_init 16 rfl) 32 rfl rfl (fun M1 hM => ?_)
  cases hM
  refine x_aload_n (C.gc KR.tt ad (lC 78)) rfl rfl (dkAt dk_X7_init 17 rfl) 33 rfl ?_
  refine x_bipush (C.gc KR.tt ad (lC 78)) (v := (6 : Int32)) (by decide) (dkAt dk_X7_init 18 rfl) 35 rfl ?_
  refine d_newaC C (ty := .int) (L := [some (.inr 74)]) (st := [.inr 74]) (by decide) rfl (by decide) rfl ka_int rfl (fun _ => rfl) ⟨by decide, by decide, by decide⟩ ((zr86 hz).mono (by decide)) ⟨by decide, by decide⟩ hag (by decide) rfl rfl (svC (by decide)) (svD (by decide)) (dkAt dk_X7_init 19 rfl) 37 rfl (cs1 := 4) (sl1 := 33) rfl rfl (fun ad hag => ?_)
  change G (gc Γ KT ad (lC 79)) X (mm86 M) 4 33 [some (.ref (ad 74))] [.ref (ad 78), .ref (ad 74)] 37
  refine x_putFR (C.gc KR.tt ad (lC 79)) hI (kk := some) (rM := (mm87 M)) (fun _ _ => trivial) pkf_RX7_25 ⟨_, rfl⟩ (oc (by decide) (by decide) rfl) (dkAt dk_X7_init 20 rfl) 40 rfl rfl (fun M1 hM => ?_)
  cases hM
  refine x_aload_n (C.gc KR.tt ad (lC 79)) rfl rfl (dkAt dk_X7_init 21 rfl) 41 rfl ?_
  refine x_iconst (C.gc KR.tt ad (lC 79)) (v := (5 : Int32)) (by decide) (dkAt dk_X7_init 22 rfl) 42 rfl ?_
  refine d_newaC C (ty := .int) (L := [some (.inr 74)]) (st := [.inr 74]) (by decide) rfl (by decide) rfl ka_int rfl (fun _ => rfl) ⟨by decide, by decide, by decide⟩ ((zr87 hz).mono (by decide)) ⟨by decide, by decide⟩ hag (by decide) rfl rfl (svC (by decide)) (svD (by decide)) (dkAt dk_X7_init 23 rfl) 44 rfl (cs1 := 5) (sl1 := 38) rfl rfl (fun ad hag => ?_)
  change G (gc Γ KT ad (lC 80)) X (mm87 M) 5 38 [some (.ref (ad 74))] [.ref (ad 79), .ref (ad 74)] 44
  refine x_putFR (C.gc KR.tt ad (lC 80)) hI (kk := some) (rM := (mm88 M)) (fun _ _ => trivial) pkf_RX7_28 ⟨_, rfl⟩ (oc (by decide) (by decide) rfl) (dkAt dk_X7_init 24 rfl) 47 rfl rfl (fun M1 hM => ?_)
  cases hM
  exact d_vret (K9 := KT) C E hag (fun h => h) (by decide) (by decide) (dkAt dk_X7_init 25 rfl)
set_option maxRecDepth 100000 in
theorem k_X7_init_80 {Γ : WC} {M : Mem} (hG : HG Γ) (hov : va_AO "DecisionChain$Settings" (wU Γ)) (hz : Zc 0 M) : CtD Γ KT KT yX7_init cX7_init 1 none (rmL 1 5 38) (lC 81) (lC 86) [.inr 80] (mm89 M) none (mm95 M) := by
  refine mkD hG (own := RX7) rfl (by decide) (fun _ => Nat.le_of_ble_eq_true rfl) (fun ad0 X C hI0 E => ?_)
  have hI := hI0 rfl
  have hag : agr (lC 81) ad0 ad0 := agr.rfl
  change G (gc Γ KT ad0 (lC 81)) X (mm89 M) 0 0 [some (.ref (ad0 80))] [] 0
  refine x_aload_n (C.gc KR.tt ad0 (lC 81)) rfl rfl (dkAt dk_X7_init 0 rfl) 1 rfl ?_
  refine d_obj C lo_RX7_3 mi_obj cw_obj ⟨by decide, by decide⟩ (by decide) (dkAt dk_X7_init 1 rfl) 4 rfl ?_
  refine x_aload_n (C.gc KR.tt ad0 (lC 81)) rfl rfl (dkAt dk_X7_init 2 rfl) 5 rfl ?_
  refine x_bipush (C.gc KR.tt ad0 (lC 81)) (v := (18 : Int32)) (by decide) (dkAt dk_X7_init 3 rfl) 7 rfl ?_
  refine d_newaC C (ty := .int) (L := [some (.inr 80)]) (st := [.inr 80]) (by decide) rfl (by decide) rfl ka_int rfl (fun _ => rfl) ⟨by decide, by decide, by decide⟩ ((zr89 hz).mono (by decide)) ⟨by decide, by decide⟩ hag (by decide) rfl rfl (svC (by decide)) (svD (by decide)) (dkAt dk_X7_init 4 rfl) 9 rfl (cs1 := 1) (sl1 := 18) rfl rfl (fun ad hag => ?_)
  change G (gc Γ KT ad (lC 82)) X (mm89 M) 1 18 [some (.ref (ad 80))] [.ref (ad 81), .ref (ad 80)] 9
  refine x_putFR (C.gc KR.tt ad (lC 82)) hI (kk := some) (rM := (mm90 M)) (fun _ _ => trivial) pkf_RX7_9 ⟨_, rfl⟩ (oc (by decide) (by decide) rfl) (dkAt dk_X7_init 5 rfl) 12 rfl rfl (fun M1 hM => ?_)
  cases hM
  refine x_aload_n (C.gc KR.tt ad (lC 82)) rfl rfl (dkAt dk_X7_init 6 rfl) 13 rfl ?_
  refine x_bipush (C.gc KR.tt ad (lC 82)) (v := (6 : Int32)) (by decide) (dkAt dk_X7_init 7 rfl) 15 rfl ?_
  refine d_newaC C (ty := .int) (L := [some (.inr 80)]) (st := [.inr 80]) (by decide) rfl (by decide) rfl ka_int rfl (fun _ => rfl) ⟨by decide, by decide, by decide⟩ ((zr90 hz).mono (by decide)) ⟨by decide, by decide⟩ hag (by decide) rfl rfl (svC (by decide)) (svD (by decide)) (dkAt dk_X7_init 8 rfl) 17 rfl (cs1 := 2) (sl1 := 24) rfl rfl (fun ad hag => ?_)
  change G (gc Γ KT ad (lC 83)) X (mm90 M) 2 24 [some (.ref (ad 80))] [.ref (ad 82), .ref (ad 80)] 17
  refine x_putFR (C.gc KR.tt ad (lC 83)) hI (kk := some) (rM := (mm91 M)) (fun _ _ => trivial) pkf_RX7_15 ⟨_, rfl⟩ (oc (by decide) (by decide) rfl) (dkAt dk_X7_init 9 rfl) 20 rfl rfl (fun M1 hM => ?_)
  cases hM
  refine x_aload_n (C.gc KR.tt ad (lC 83)) rfl rfl (dkAt dk_X7_init 10 rfl) 21 rfl ?_
  refine x_iconst (C.gc KR.tt ad (lC 83)) (v := (3 : Int32)) (by decide) (dkAt dk_X7_init 11 rfl) 22 rfl ?_
  refine d_newaC C (ty := .int) (L := [some (.inr 80)]) (st := [.inr 80]) (by decide) rfl (by decide) rfl ka_int rfl (fun _ => rfl) ⟨by decide, by decide, by decide⟩ ((zr91 hz).mono (by decide)) ⟨by decide, by decide⟩ hag (by decide) rfl rfl (svC (by decide)) (svD (by decide)) (dkAt dk_X7_init 12 rfl) 24 rfl (cs1 := 3) (sl1 := 27) rfl rfl (fun ad hag => ?_)
  change G (gc Γ KT ad (lC 84)) X (mm91 M) 3 27 [some (.ref (ad 80))] [.ref (ad 83), .ref (ad 80)] 24
  refine x_putFR (C.gc KR.tt ad (lC 84)) hI (kk := some) (rM := (mm92 M)) (fun _ _ => trivial) pkf_RX7_18 ⟨_, rfl⟩ (oc (by decide) (by decide) rfl) (dkAt dk_X7_init 13 rfl) 27 rfl rfl (fun M1 hM => ?_)
  cases hM
  refine x_aload_n (C.gc KR.tt ad (lC 84)) rfl rfl (dkAt dk_X7_init 14 rfl) 28 rfl ?_
  refine x_iconst (C.gc KR.tt ad (lC 84)) (v := (-1 : Int32)) (by decide) (dkAt dk_X7_init 15 rfl) 29 rfl ?_
  refine x_putI (C.gc KR.tt ad (lC 84)) (kk := some) (rM := (mm93 M)) pk_RX7_21 ⟨_, rfl⟩ (oc (by decide) (by decide) rfl) (dkAt dk_X7_init 16 rfl) 32 rfl rfl (fun M1 hM => ?_)
  cases hM
  refine x_aload_n (C.gc KR.tt ad (lC 84)) rfl rfl (dkAt dk_X7_init 17 rfl) 33 rfl ?_
  refine x_bipush (C.gc KR.tt ad (lC 84)) (v := (6 : Int32)) (by decide) (dkAt dk_X7_init 18 rfl) 35 rfl ?_
  refine d_newaC C (ty := .int) (L := [some (.inr 80)]) (st := [.inr 80]) (by decide) rfl (by decide) rfl ka_int rfl (fun _ => rfl) ⟨by decide, by decide, by decide⟩ ((zr93 hz).mono (by decide)) ⟨by decide, by decide⟩ hag (by decide) rfl rfl (svC (by decide)) (svD (by decide)) (dkAt dk_X7_init 19 rfl) 37 rfl (cs1 := 4) (sl1 := 33) rfl rfl (fun ad hag => ?_)
  change G (gc Γ KT ad (lC 85)) X (mm93 M) 4 33 [some (.ref (ad 80))] [.ref (ad 84), .ref (ad 80)] 37
  refine x_putFR (C.gc KR.tt ad (lC 85)) hI (kk := some) (rM := (mm94 M)) (fun _ _ => trivial) pkf_RX7_25 ⟨_, rfl⟩ (oc (by decide) (by decide) rfl) (dkAt dk_X7_init 20 rfl) 40 rfl rfl (fun M1 hM => ?_)
  cases hM
  refine x_aload_n (C.gc KR.tt ad (lC 85)) rfl rfl (dkAt dk_X7_init 21 rfl) 41 rfl ?_
  refine x_iconst (C.gc KR.tt ad (lC 85)) (v := (5 : Int32)) (by decide) (dkAt dk_X7_init 22 rfl) 42 rfl ?_
  refine d_newaC C (ty := .int) (L := [some (.inr 80)]) (st := [.inr 80]) (by decide) rfl (by decide) rfl ka_int rfl (fun _ => rfl) ⟨by decide, by decide, by decide⟩ ((zr94 hz).mono (by decide)) ⟨by decide, by decide⟩ hag (by decide) rfl rfl (svC (by decide)) (svD (by decide)) (dkAt dk_X7_init 23 rfl) 44 rfl (cs1 := 5) (sl1 := 38) rfl rfl (fun ad hag => ?_)
  change G (gc Γ KT ad (lC 86)) X (mm94 M) 5 38 [some (.ref (ad 80))] [.ref (ad 85), .ref (ad 80)] 44
  refine x_putFR (C.gc KR.tt ad (lC 86)) hI (kk := some) (rM := (mm95 M)) (fun _ _ => trivial) pkf_RX7_28 ⟨_, rfl⟩ (oc (by decide) (by decide) rfl) (dkAt dk_X7_init 24 rfl) 47 rfl rfl (fun M1 hM => ?_)
  cases hM
  exact d_vret (K9 := KT) C E hag (fun h => h) (by decide) (by decide) (dkAt dk_X7_init 25 rfl)
set_option maxRecDepth 100000 in
theorem k_X7_init_86 {Γ : WC} {M : Mem} (hG : HG Γ) (hov : va_AO "DecisionChain$Settings" (wU Γ)) (hz : Zc 0 M) : CtD Γ KT KT yX7_init cX7_init 1 none (rmL 1 5 38) (lC 87) (lC 92) [.inr 86] (mm96 M) none (mm102 M) := by
  refine mkD hG (own := RX7) rfl (by decide) (fun _ => Nat.le_of_ble_eq_true rfl) (fun ad0 X C hI0 E => ?_)
  have hI := hI0 rfl
  have hag : agr (lC 87) ad0 ad0 := agr.rfl
  change G (gc Γ KT ad0 (lC 87)) X (mm96 M) 0 0 [some (.ref (ad0 86))] [] 0
  refine x_aload_n (C.gc KR.tt ad0 (lC 87)) rfl rfl (dkAt dk_X7_init 0 rfl) 1 rfl ?_
  refine d_obj C lo_RX7_3 mi_obj cw_obj ⟨by decide, by decide⟩ (by decide) (dkAt dk_X7_init 1 rfl) 4 rfl ?_
  refine x_aload_n (C.gc KR.tt ad0 (lC 87)) rfl rfl (dkAt dk_X7_init 2 rfl) 5 rfl ?_
  refine x_bipush (C.gc KR.tt ad0 (lC 87)) (v := (18 : Int32)) (by decide) (dkAt dk_X7_init 3 rfl) 7 rfl ?_
  refine d_newaC C (ty := .int) (L := [some (.inr 86)]) (st := [.inr 86]) (by decide) rfl (by decide) rfl ka_int rfl (fun _ => rfl) ⟨by decide, by decide, by decide⟩ ((zr96 hz).mono (by decide)) ⟨by decide, by decide⟩ hag (by decide) rfl rfl (svC (by decide)) (svD (by decide)) (dkAt dk_X7_init 4 rfl) 9 rfl (cs1 := 1) (sl1 := 18) rfl rfl (fun ad hag => ?_)
  change G (gc Γ KT ad (lC 88)) X (mm96 M) 1 18 [some (.ref (ad 86))] [.ref (ad 87), .ref (ad 86)] 9
  refine x_putFR (C.gc KR.tt ad (lC 88)) hI (kk := some) (rM := (mm97 M)) (fun _ _ => trivial) pkf_RX7_9 ⟨_, rfl⟩ (oc (by decide) (by decide) rfl) (dkAt dk_X7_init 5 rfl) 12 rfl rfl (fun M1 hM => ?_)
  cases hM
  refine x_aload_n (C.gc KR.tt ad (lC 88)) rfl rfl (dkAt dk_X7_init 6 rfl) 13 rfl ?_
  refine x_bipush (C.gc KR.tt ad (lC 88)) (v := (6 : Int32)) (by decide) (dkAt dk_X7_init 7 rfl) 15 rfl ?_
  refine d_newaC C (ty := .int) (L := [some (.inr 86)]) (st := [.inr 86]) (by decide) rfl (by decide) rfl ka_int rfl (fun _ => rfl) ⟨by decide, by decide, by decide⟩ ((zr97 hz).mono (by decide)) ⟨by decide, by decide⟩ hag (by decide) rfl rfl (svC (by decide)) (svD (by decide)) (dkAt dk_X7_init 8 rfl) 17 rfl (cs1 := 2) (sl1 := 24) rfl rfl (fun ad hag => ?_)
  change G (gc Γ KT ad (lC 89)) X (mm97 M) 2 24 [some (.ref (ad 86))] [.ref (ad 88), .ref (ad 86)] 17
  refine x_putFR (C.gc KR.tt ad (lC 89)) hI (kk := some) (rM := (mm98 M)) (fun _ _ => trivial) pkf_RX7_15 ⟨_, rfl⟩ (oc (by decide) (by decide) rfl) (dkAt dk_X7_init 9 rfl) 20 rfl rfl (fun M1 hM => ?_)
  cases hM
  refine x_aload_n (C.gc KR.tt ad (lC 89)) rfl rfl (dkAt dk_X7_init 10 rfl) 21 rfl ?_
  refine x_iconst (C.gc KR.tt ad (lC 89)) (v := (3 : Int32)) (by decide) (dkAt dk_X7_init 11 rfl) 22 rfl ?_
  refine d_newaC C (ty := .int) (L := [some (.inr 86)]) (st := [.inr 86]) (by decide) rfl (by decide) rfl ka_int rfl (fun _ => rfl) ⟨by decide, by decide, by decide⟩ ((zr98 hz).mono (by decide)) ⟨by decide, by decide⟩ hag (by decide) rfl rfl (svC (by decide)) (svD (by decide)) (dkAt dk_X7_init 12 rfl) 24 rfl (cs1 := 3) (sl1 := 27) rfl rfl (fun ad hag => ?_)
  change G (gc Γ KT ad (lC 90)) X (mm98 M) 3 27 [some (.ref (ad 86))] [.ref (ad 89), .ref (ad 86)] 24
  refine x_putFR (C.gc KR.tt ad (lC 90)) hI (kk := some) (rM := (mm99 M)) (fun _ _ => trivial) pkf_RX7_18 ⟨_, rfl⟩ (oc (by decide) (by decide) rfl) (dkAt dk_X7_init 13 rfl) 27 rfl rfl (fun M1 hM => ?_)
  cases hM
  refine x_aload_n (C.gc KR.tt ad (lC 90)) rfl rfl (dkAt dk_X7_init 14 rfl) 28 rfl ?_
  refine x_iconst (C.gc KR.tt ad (lC 90)) (v := (-1 : Int32)) (by decide) (dkAt dk_X7_init 15 rfl) 29 rfl ?_
  refine x_putI (C.gc KR.tt ad (lC 90)) (kk := some) (rM := (mm100 M)) pk_RX7_21 ⟨_, rfl⟩ (oc (by decide) (by decide) rfl) (dkAt dk_X7_init 16 rfl) 32 rfl rfl (fun M1 hM => ?_)
  cases hM
  refine x_aload_n (C.gc KR.tt ad (lC 90)) rfl rfl (dkAt dk_X7_init 17 rfl) 33 rfl ?_
  refine x_bipush (C.gc KR.tt ad (lC 90)) (v := (6 : Int32)) (by decide) (dkAt dk_X7_init 18 rfl) 35 rfl ?_
  refine d_newaC C (ty := .int) (L := [some (.inr 86)]) (st := [.inr 86]) (by decide) rfl (by decide) rfl ka_int rfl (fun _ => rfl) ⟨by decide, by decide, by decide⟩ ((zr100 hz).mono (by decide)) ⟨by decide, by decide⟩ hag (by decide) rfl rfl (svC (by decide)) (svD (by decide)) (dkAt dk_X7_init 19 rfl) 37 rfl (cs1 := 4) (sl1 := 33) rfl rfl (fun ad hag => ?_)
  change G (gc Γ KT ad (lC 91)) X (mm100 M) 4 33 [some (.ref (ad 86))] [.ref (ad 90), .ref (ad 86)] 37
  refine x_putFR (C.gc KR.tt ad (lC 91)) hI (kk := some) (rM := (mm101 M)) (fun _ _ => trivial) pkf_RX7_25 ⟨_, rfl⟩ (oc (by decide) (by decide) rfl) (dkAt dk_X7_init 20 rfl) 40 rfl rfl (fun M1 hM => ?_)
  cases hM
  refine x_aload_n (C.gc KR.tt ad (lC 91)) rfl rfl (dkAt dk_X7_init 21 rfl) 41 rfl ?_
  refine x_iconst (C.gc KR.tt ad (lC 91)) (v := (5 : Int32)) (by decide) (dkAt dk_X7_init 22 rfl) 42 rfl ?_
  refine d_newaC C (ty := .int) (L := [some (.inr 86)]) (st := [.inr 86]) (by decide) rfl (by decide) rfl ka_int rfl (fun _ => rfl) ⟨by decide, by decide, by decide⟩ ((zr101 hz).mono (by decide)) ⟨by decide, by decide⟩ hag (by decide) rfl rfl (svC (by decide)) (svD (by decide)) (dkAt dk_X7_init 23 rfl) 44 rfl (cs1 := 5) (sl1 := 38) rfl rfl (fun ad hag => ?_)
  change G (gc Γ KT ad (lC 92)) X (mm101 M) 5 38 [some (.ref (ad 86))] [.ref (ad 91), .ref (ad 86)] 44
  refine x_putFR (C.gc KR.tt ad (lC 92)) hI (kk := some) (rM := (mm102 M)) (fun _ _ => trivial) pkf_RX7_28 ⟨_, rfl⟩ (oc (by decide) (by decide) rfl) (dkAt dk_X7_init 24 rfl) 47 rfl rfl (fun M1 hM => ?_)
  cases hM
  exact d_vret (K9 := KT) C E hag (fun h => h) (by decide) (by decide) (dkAt dk_X7_init 25 rfl)
set_option maxRecDepth 100000 in
theorem k_X3_init_35 {Γ : WC} {M : Mem} (hG : HG Γ) (hov : va_AO "DecisionChain$Settings" (wU Γ)) (hz : Zc 0 M) : CtD Γ KT KT yX3_init cX3_init 2 none (rmL 2 56 432) (lC 36) (lC 92) [.inr 35] (mm38 M) none (mm103 M) := by
  refine mkD hG (own := RX3) rfl (by decide) (fun _ => Nat.le_of_ble_eq_true rfl) (fun ad0 X C hI0 E => ?_)
  have hI := hI0 rfl
  have hag : agr (lC 36) ad0 ad0 := agr.rfl
  change G (gc Γ KT ad0 (lC 36)) X (mm38 M) 0 0 [some (.ref (ad0 35))] [] 0
  refine x_aload_n (C.gc KR.tt ad0 (lC 36)) rfl rfl (dkAt dk_X3_init 0 rfl) 1 rfl ?_
  refine d_obj C lo_RX3_3 mi_obj cw_obj ⟨by decide, by decide⟩ (by decide) (dkAt dk_X3_init 1 rfl) 4 rfl ?_
  refine x_aload_n (C.gc KR.tt ad0 (lC 36)) rfl rfl (dkAt dk_X3_init 2 rfl) 5 rfl ?_
  refine x_bipush (C.gc KR.tt ad0 (lC 36)) (v := (7 : Int32)) (by decide) (dkAt dk_X3_init 3 rfl) 7 rfl ?_
  refine d_newqC C (L := [some (.inr 35)]) (st := [.inr 35]) (by decide) rfl (by decide) kl_RX3_9 hov ⟨by decide, by decide, by decide⟩ ((zr38 hz).mono (by decide)) ⟨by decide, by decide⟩ hag (by decide) rfl rfl (svC (by decide)) (svD (by decide)) (dkAt dk_X3_init 4 rfl) 10 rfl (cs1 := 1) (sl1 := 7) rfl rfl (fun ad hag => ?_)
  change G (gc Γ KT ad (lC 37)) X (mm38 M) 1 7 [some (.ref (ad 35))] [.ref (ad 36), .ref (ad 35)] 10
  refine x_putFR (C.gc KR.tt ad (lC 37)) hI (kk := some) (rM := (mm39 M)) (fun _ _ => trivial) pkf_RX3_11 ⟨_, rfl⟩ (oc (by decide) (by decide) rfl) (dkAt dk_X3_init 5 rfl) 13 rfl rfl (fun M1 hM => ?_)
  cases hM
  refine x_aload_n (C.gc KR.tt ad (lC 37)) rfl rfl (dkAt dk_X3_init 6 rfl) 14 rfl ?_
  refine x_iconst (C.gc KR.tt ad (lC 37)) (v := (2 : Int32)) (by decide) (dkAt dk_X3_init 7 rfl) 15 rfl ?_
  refine d_newqC C (L := [some (.inr 35)]) (st := [.inr 35]) (by decide) rfl (by decide) kl_RX3_9 hov ⟨by decide, by decide, by decide⟩ ((zr39 hz).mono (by decide)) ⟨by decide, by decide⟩ hag (by decide) rfl rfl (svC (by decide)) (svD (by decide)) (dkAt dk_X3_init 8 rfl) 18 rfl (cs1 := 2) (sl1 := 9) rfl rfl (fun ad hag => ?_)
  change G (gc Γ KT ad (lC 38)) X (mm39 M) 2 9 [some (.ref (ad 35))] [.ref (ad 37), .ref (ad 35)] 18
  refine x_putFR (C.gc KR.tt ad (lC 38)) hI (kk := some) (rM := (mm40 M)) (fun _ _ => trivial) pkf_RX3_17 ⟨_, rfl⟩ (oc (by decide) (by decide) rfl) (dkAt dk_X3_init 9 rfl) 21 rfl rfl (fun M1 hM => ?_)
  cases hM
  refine x_iconst (C.gc KR.tt ad (lC 38)) (v := (0 : Int32)) (by decide) (dkAt dk_X3_init 10 rfl) 22 rfl ?_
  refine x_istore_n (C.gc KR.tt ad (lC 38)) (L1 := [some (.ref (ad 35)), some (.int (0 : Int32))]) (dkAt dk_X3_init 11 rfl) 23 rfl rfl (by decide) rfl ?_
  refine x_iload_n (C.gc KR.tt ad (lC 38)) rfl rfl (dkAt dk_X3_init 12 rfl) 24 rfl ?_
  refine x_bipush (C.gc KR.tt ad (lC 38)) (v := (7 : Int32)) (by decide) (dkAt dk_X3_init 13 rfl) 26 rfl ?_
  refine x_icmp_ge (C.gc KR.tt ad (lC 38)) (a := none) (b := some ()) (rM := ()) 48 (dkAt dk_X3_init 14 rfl) 29 rfl (by decide) (if_neg (by decide)) (fun h => nomatch h) (fun _ => ?_)
  refine x_aload_n (C.gc KR.tt ad (lC 38)) rfl rfl (dkAt dk_X3_init 15 rfl) 30 rfl ?_
  refine d_getS C lk_RX3_11 (o := 35) (j := 36) (oc (n := 38) (by decide) (by decide) rfl) rfl (dkAt dk_X3_init 16 rfl) 33 rfl ?_
  refine x_iload_n (C.gc KR.tt ad (lC 38)) rfl rfl (dkAt dk_X3_init 17 rfl) 34 rfl ?_
  refine d_newC C (L := [some (.inr 35), some (.inl (.int (0 : Int32)))]) (st := [.inl (.int (0 : Int32)), .inr 36]) (by decide) rfl rc7 uw7 tyX7_ok kd_7 kl_RX3_9 ki_7 kn_7 ((zr40 hz).mono (by decide)) ⟨by decide, by decide⟩ hag (by decide) rfl rfl (svC (by decide)) (svD (by decide)) (dkAt dk_X3_init 18 rfl) 37 rfl (cs1 := 3) (sl1 := 18) rfl rfl (fun ad hag => ?_)
  change G (gc Γ KT ad (lC 39)) X (mm40 M) 3 18 [some (.ref (ad 35)), some (.int (0 : Int32))] [.ref (ad 38), .int (0 : Int32), .ref (ad 36)] 37
  refine x_dup (C.gc KR.tt ad (lC 39)) rfl (dkAt dk_X3_init 19 rfl) 38 rfl ?_
  refine d_cJ C (k_X7_init_38 hG hov hz) mw_X7_init ln_RX3_20 mii_X7_init ⟨by decide, by decide, by decide, by decide⟩ rfl hag (lC_sub (by decide)) (L := [some (.inr 35), some (.inl (.int (0 : Int32)))]) (st := [.inr 38, .inl (.int (0 : Int32)), .inr 36]) rfl rfl (svC (by decide)) (svD (by decide)) (Nat.le_of_ble_eq_true rfl) (dkAt dk_X3_init 20 rfl) 41 rfl (cs1 := 8) (sl1 := 56) rfl rfl (fun _ ad hag => ?_)
  change G (gc Γ KT ad (lC 44)) X (mm46 M) 8 56 [some (.ref (ad 35)), some (.int (0 : Int32))] [.ref (ad 38), .int (0 : Int32), .ref (ad 36)] 41
  refine x_aast (C.gc KR.tt ad (lC 44)) (k := some) (rM := (mm47 M)) (n := 7) (n9 := 9) (by decide) (fun _ _ => trivial) (oc (by decide) (by decide) rfl) (oc (by decide) (by decide) rfl) (dkAt dk_X3_init 21 rfl) 42 rfl (if_pos (by decide)) (fun M1 hM => ?_)
  cases hM
  refine x_iinc (C.gc KR.tt ad (lC 44)) (v := (1 : Int32)) (L1 := [some (.ref (ad 35)), some (.int (1 : Int32))]) (dkAt dk_X3_init 22 rfl) 45 rfl rfl (by decide) (by decide) rfl ?_
  refine x_goto (C.gc KR.tt ad (lC 44)) 23 (dkAt dk_X3_init 23 rfl) (by decide) ?_
  refine x_iload_n (C.gc KR.tt ad (lC 44)) rfl rfl (dkAt dk_X3_init 12 rfl) 24 rfl ?_
  refine x_bipush (C.gc KR.tt ad (lC 44)) (v := (7 : Int32)) (by decide) (dkAt dk_X3_init 13 rfl) 26 rfl ?_
  refine x_icmp_ge (C.gc KR.tt ad (lC 44)) (a := none) (b := some ()) (rM := ()) 48 (dkAt dk_X3_init 14 rfl) 29 rfl (by decide) (if_neg (by decide)) (fun h => nomatch h) (fun _ => ?_)
  refine x_aload_n (C.gc KR.tt ad (lC 44)) rfl rfl (dkAt dk_X3_init 15 rfl) 30 rfl ?_
  refine d_getS C lk_RX3_11 (o := 35) (j := 36) (oc (n := 44) (by decide) (by decide) rfl) rfl (dkAt dk_X3_init 16 rfl) 33 rfl ?_
  refine x_iload_n (C.gc KR.tt ad (lC 44)) rfl rfl (dkAt dk_X3_init 17 rfl) 34 rfl ?_
  refine d_newC C (L := [some (.inr 35), some (.inl (.int (1 : Int32)))]) (st := [.inl (.int (1 : Int32)), .inr 36]) (by decide) rfl rc7 uw7 tyX7_ok kd_7 kl_RX3_9 ki_7 kn_7 ((zr47 hz).mono (by decide)) ⟨by decide, by decide⟩ hag (by decide) rfl rfl (svC (by decide)) (svD (by decide)) (dkAt dk_X3_init 18 rfl) 37 rfl (cs1 := 9) (sl1 := 65) rfl rfl (fun ad hag => ?_)
  change G (gc Γ KT ad (lC 45)) X (mm47 M) 9 65 [some (.ref (ad 35)), some (.int (1 : Int32))] [.ref (ad 44), .int (1 : Int32), .ref (ad 36)] 37
  refine x_dup (C.gc KR.tt ad (lC 45)) rfl (dkAt dk_X3_init 19 rfl) 38 rfl ?_
  refine d_cJ C (k_X7_init_44 hG hov hz) mw_X7_init ln_RX3_20 mii_X7_init ⟨by decide, by decide, by decide, by decide⟩ rfl hag (lC_sub (by decide)) (L := [some (.inr 35), some (.inl (.int (1 : Int32)))]) (st := [.inr 44, .inl (.int (1 : Int32)), .inr 36]) rfl rfl (svC (by decide)) (svD (by decide)) (Nat.le_of_ble_eq_true rfl) (dkAt dk_X3_init 20 rfl) 41 rfl (cs1 := 14) (sl1 := 103) rfl rfl (fun _ ad hag => ?_)
  change G (gc Γ KT ad (lC 50)) X (mm53 M) 14 103 [some (.ref (ad 35)), some (.int (1 : Int32))] [.ref (ad 44), .int (1 : Int32), .ref (ad 36)] 41
  refine x_aast (C.gc KR.tt ad (lC 50)) (k := some) (rM := (mm54 M)) (n := 7) (n9 := 9) (by decide) (fun _ _ => trivial) (oc (by decide) (by decide) rfl) (oc (by decide) (by decide) rfl) (dkAt dk_X3_init 21 rfl) 42 rfl (if_pos (by decide)) (fun M1 hM => ?_)
  cases hM
  refine x_iinc (C.gc KR.tt ad (lC 50)) (v := (2 : Int32)) (L1 := [some (.ref (ad 35)), some (.int (2 : Int32))]) (dkAt dk_X3_init 22 rfl) 45 rfl rfl (by decide) (by decide) rfl ?_
  refine x_goto (C.gc KR.tt ad (lC 50)) 23 (dkAt dk_X3_init 23 rfl) (by decide) ?_
  refine x_iload_n (C.gc KR.tt ad (lC 50)) rfl rfl (dkAt dk_X3_init 12 rfl) 24 rfl ?_
  refine x_bipush (C.gc KR.tt ad (lC 50)) (v := (7 : Int32)) (by decide) (dkAt dk_X3_init 13 rfl) 26 rfl ?_
  refine x_icmp_ge (C.gc KR.tt ad (lC 50)) (a := none) (b := some ()) (rM := ()) 48 (dkAt dk_X3_init 14 rfl) 29 rfl (by decide) (if_neg (by decide)) (fun h => nomatch h) (fun _ => ?_)
  refine x_aload_n (C.gc KR.tt ad (lC 50)) rfl rfl (dkAt dk_X3_init 15 rfl) 30 rfl ?_
  refine d_getS C lk_RX3_11 (o := 35) (j := 36) (oc (n := 50) (by decide) (by decide) rfl) rfl (dkAt dk_X3_init 16 rfl) 33 rfl ?_
  refine x_iload_n (C.gc KR.tt ad (lC 50)) rfl rfl (dkAt dk_X3_init 17 rfl) 34 rfl ?_
  refine d_newC C (L := [some (.inr 35), some (.inl (.int (2 : Int32)))]) (st := [.inl (.int (2 : Int32)), .inr 36]) (by decide) rfl rc7 uw7 tyX7_ok kd_7 kl_RX3_9 ki_7 kn_7 ((zr54 hz).mono (by decide)) ⟨by decide, by decide⟩ hag (by decide) rfl rfl (svC (by decide)) (svD (by decide)) (dkAt dk_X3_init 18 rfl) 37 rfl (cs1 := 15) (sl1 := 112) rfl rfl (fun ad hag => ?_)
  change G (gc Γ KT ad (lC 51)) X (mm54 M) 15 112 [some (.ref (ad 35)), some (.int (2 : Int32))] [.ref (ad 50), .int (2 : Int32), .ref (ad 36)] 37
  refine x_dup (C.gc KR.tt ad (lC 51)) rfl (dkAt dk_X3_init 19 rfl) 38 rfl ?_
  refine d_cJ C (k_X7_init_50 hG hov hz) mw_X7_init ln_RX3_20 mii_X7_init ⟨by decide, by decide, by decide, by decide⟩ rfl hag (lC_sub (by decide)) (L := [some (.inr 35), some (.inl (.int (2 : Int32)))]) (st := [.inr 50, .inl (.int (2 : Int32)), .inr 36]) rfl rfl (svC (by decide)) (svD (by decide)) (Nat.le_of_ble_eq_true rfl) (dkAt dk_X3_init 20 rfl) 41 rfl (cs1 := 20) (sl1 := 150) rfl rfl (fun _ ad hag => ?_)
  change G (gc Γ KT ad (lC 56)) X (mm60 M) 20 150 [some (.ref (ad 35)), some (.int (2 : Int32))] [.ref (ad 50), .int (2 : Int32), .ref (ad 36)] 41
  refine x_aast (C.gc KR.tt ad (lC 56)) (k := some) (rM := (mm61 M)) (n := 7) (n9 := 9) (by decide) (fun _ _ => trivial) (oc (by decide) (by decide) rfl) (oc (by decide) (by decide) rfl) (dkAt dk_X3_init 21 rfl) 42 rfl (if_pos (by decide)) (fun M1 hM => ?_)
  cases hM
  refine x_iinc (C.gc KR.tt ad (lC 56)) (v := (3 : Int32)) (L1 := [some (.ref (ad 35)), some (.int (3 : Int32))]) (dkAt dk_X3_init 22 rfl) 45 rfl rfl (by decide) (by decide) rfl ?_
  refine x_goto (C.gc KR.tt ad (lC 56)) 23 (dkAt dk_X3_init 23 rfl) (by decide) ?_
  refine x_iload_n (C.gc KR.tt ad (lC 56)) rfl rfl (dkAt dk_X3_init 12 rfl) 24 rfl ?_
  refine x_bipush (C.gc KR.tt ad (lC 56)) (v := (7 : Int32)) (by decide) (dkAt dk_X3_init 13 rfl) 26 rfl ?_
  refine x_icmp_ge (C.gc KR.tt ad (lC 56)) (a := none) (b := some ()) (rM := ()) 48 (dkAt dk_X3_init 14 rfl) 29 rfl (by decide) (if_neg (by decide)) (fun h => nomatch h) (fun _ => ?_)
  refine x_aload_n (C.gc KR.tt ad (lC 56)) rfl rfl (dkAt dk_X3_init 15 rfl) 30 rfl ?_
  refine d_getS C lk_RX3_11 (o := 35) (j := 36) (oc (n := 56) (by decide) (by decide) rfl) rfl (dkAt dk_X3_init 16 rfl) 33 rfl ?_
  refine x_iload_n (C.gc KR.tt ad (lC 56)) rfl rfl (dkAt dk_X3_init 17 rfl) 34 rfl ?_
  refine d_newC C (L := [some (.inr 35), some (.inl (.int (3 : Int32)))]) (st := [.inl (.int (3 : Int32)), .inr 36]) (by decide) rfl rc7 uw7 tyX7_ok kd_7 kl_RX3_9 ki_7 kn_7 ((zr61 hz).mono (by decide)) ⟨by decide, by decide⟩ hag (by decide) rfl rfl (svC (by decide)) (svD (by decide)) (dkAt dk_X3_init 18 rfl) 37 rfl (cs1 := 21) (sl1 := 159) rfl rfl (fun ad hag => ?_)
  change G (gc Γ KT ad (lC 57)) X (mm61 M) 21 159 [some (.ref (ad 35)), some (.int (3 : Int32))] [.ref (ad 56), .int (3 : Int32), .ref (ad 36)] 37
  refine x_dup (C.gc KR.tt ad (lC 57)) rfl (dkAt dk_X3_init 19 rfl) 38 rfl ?_
  refine d_cJ C (k_X7_init_56 hG hov hz) mw_X7_init ln_RX3_20 mii_X7_init ⟨by decide, by decide, by decide, by decide⟩ rfl hag (lC_sub (by decide)) (L := [some (.inr 35), some (.inl (.int (3 : Int32)))]) (st := [.inr 56, .inl (.int (3 : Int32)), .inr 36]) rfl rfl (svC (by decide)) (svD (by decide)) (Nat.le_of_ble_eq_true rfl) (dkAt dk_X3_init 20 rfl) 41 rfl (cs1 := 26) (sl1 := 197) rfl rfl (fun _ ad hag => ?_)
  change G (gc Γ KT ad (lC 62)) X (mm67 M) 26 197 [some (.ref (ad 35)), some (.int (3 : Int32))] [.ref (ad 56), .int (3 : Int32), .ref (ad 36)] 41
  refine x_aast (C.gc KR.tt ad (lC 62)) (k := some) (rM := (mm68 M)) (n := 7) (n9 := 9) (by decide) (fun _ _ => trivial) (oc (by decide) (by decide) rfl) (oc (by decide) (by decide) rfl) (dkAt dk_X3_init 21 rfl) 42 rfl (if_pos (by decide)) (fun M1 hM => ?_)
  cases hM
  refine x_iinc (C.gc KR.tt ad (lC 62)) (v := (4 : Int32)) (L1 := [some (.ref (ad 35)), some (.int (4 : Int32))]) (dkAt dk_X3_init 22 rfl) 45 rfl rfl (by decide) (by decide) rfl ?_
  refine x_goto (C.gc KR.tt ad (lC 62)) 23 (dkAt dk_X3_init 23 rfl) (by decide) ?_
  refine x_iload_n (C.gc KR.tt ad (lC 62)) rfl rfl (dkAt dk_X3_init 12 rfl) 24 rfl ?_
  refine x_bipush (C.gc KR.tt ad (lC 62)) (v := (7 : Int32)) (by decide) (dkAt dk_X3_init 13 rfl) 26 rfl ?_
  refine x_icmp_ge (C.gc KR.tt ad (lC 62)) (a := none) (b := some ()) (rM := ()) 48 (dkAt dk_X3_init 14 rfl) 29 rfl (by decide) (if_neg (by decide)) (fun h => nomatch h) (fun _ => ?_)
  refine x_aload_n (C.gc KR.tt ad (lC 62)) rfl rfl (dkAt dk_X3_init 15 rfl) 30 rfl ?_
  refine d_getS C lk_RX3_11 (o := 35) (j := 36) (oc (n := 62) (by decide) (by decide) rfl) rfl (dkAt dk_X3_init 16 rfl) 33 rfl ?_
  refine x_iload_n (C.gc KR.tt ad (lC 62)) rfl rfl (dkAt dk_X3_init 17 rfl) 34 rfl ?_
  refine d_newC C (L := [some (.inr 35), some (.inl (.int (4 : Int32)))]) (st := [.inl (.int (4 : Int32)), .inr 36]) (by decide) rfl rc7 uw7 tyX7_ok kd_7 kl_RX3_9 ki_7 kn_7 ((zr68 hz).mono (by decide)) ⟨by decide, by decide⟩ hag (by decide) rfl rfl (svC (by decide)) (svD (by decide)) (dkAt dk_X3_init 18 rfl) 37 rfl (cs1 := 27) (sl1 := 206) rfl rfl (fun ad hag => ?_)
  change G (gc Γ KT ad (lC 63)) X (mm68 M) 27 206 [some (.ref (ad 35)), some (.int (4 : Int32))] [.ref (ad 62), .int (4 : Int32), .ref (ad 36)] 37
  refine x_dup (C.gc KR.tt ad (lC 63)) rfl (dkAt dk_X3_init 19 rfl) 38 rfl ?_
  refine d_cJ C (k_X7_init_62 hG hov hz) mw_X7_init ln_RX3_20 mii_X7_init ⟨by decide, by decide, by decide, by decide⟩ rfl hag (lC_sub (by decide)) (L := [some (.inr 35), some (.inl (.int (4 : Int32)))]) (st := [.inr 62, .inl (.int (4 : Int32)), .inr 36]) rfl rfl (svC (by decide)) (svD (by decide)) (Nat.le_of_ble_eq_true rfl) (dkAt dk_X3_init 20 rfl) 41 rfl (cs1 := 32) (sl1 := 244) rfl rfl (fun _ ad hag => ?_)
  change G (gc Γ KT ad (lC 68)) X (mm74 M) 32 244 [some (.ref (ad 35)), some (.int (4 : Int32))] [.ref (ad 62), .int (4 : Int32), .ref (ad 36)] 41
  refine x_aast (C.gc KR.tt ad (lC 68)) (k := some) (rM := (mm75 M)) (n := 7) (n9 := 9) (by decide) (fun _ _ => trivial) (oc (by decide) (by decide) rfl) (oc (by decide) (by decide) rfl) (dkAt dk_X3_init 21 rfl) 42 rfl (if_pos (by decide)) (fun M1 hM => ?_)
  cases hM
  refine x_iinc (C.gc KR.tt ad (lC 68)) (v := (5 : Int32)) (L1 := [some (.ref (ad 35)), some (.int (5 : Int32))]) (dkAt dk_X3_init 22 rfl) 45 rfl rfl (by decide) (by decide) rfl ?_
  refine x_goto (C.gc KR.tt ad (lC 68)) 23 (dkAt dk_X3_init 23 rfl) (by decide) ?_
  refine x_iload_n (C.gc KR.tt ad (lC 68)) rfl rfl (dkAt dk_X3_init 12 rfl) 24 rfl ?_
  refine x_bipush (C.gc KR.tt ad (lC 68)) (v := (7 : Int32)) (by decide) (dkAt dk_X3_init 13 rfl) 26 rfl ?_
  refine x_icmp_ge (C.gc KR.tt ad (lC 68)) (a := none) (b := some ()) (rM := ()) 48 (dkAt dk_X3_init 14 rfl) 29 rfl (by decide) (if_neg (by decide)) (fun h => nomatch h) (fun _ => ?_)
  refine x_aload_n (C.gc KR.tt ad (lC 68)) rfl rfl (dkAt dk_X3_init 15 rfl) 30 rfl ?_
  refine d_getS C lk_RX3_11 (o := 35) (j := 36) (oc (n := 68) (by decide) (by decide) rfl) rfl (dkAt dk_X3_init 16 rfl) 33 rfl ?_
  refine x_iload_n (C.gc KR.tt ad (lC 68)) rfl rfl (dkAt dk_X3_init 17 rfl) 34 rfl ?_
  refine d_newC C (L := [some (.inr 35), some (.inl (.int (5 : Int32)))]) (st := [.inl (.int (5 : Int32)), .inr 36]) (by decide) rfl rc7 uw7 tyX7_ok kd_7 kl_RX3_9 ki_7 kn_7 ((zr75 hz).mono (by decide)) ⟨by decide, by decide⟩ hag (by decide) rfl rfl (svC (by decide)) (svD (by decide)) (dkAt dk_X3_init 18 rfl) 37 rfl (cs1 := 33) (sl1 := 253) rfl rfl (fun ad hag => ?_)
  change G (gc Γ KT ad (lC 69)) X (mm75 M) 33 253 [some (.ref (ad 35)), some (.int (5 : Int32))] [.ref (ad 68), .int (5 : Int32), .ref (ad 36)] 37
  refine x_dup (C.gc KR.tt ad (lC 69)) rfl (dkAt dk_X3_init 19 rfl) 38 rfl ?_
  refine d_cJ C (k_X7_init_68 hG hov hz) mw_X7_init ln_RX3_20 mii_X7_init ⟨by decide, by decide, by decide, by decide⟩ rfl hag (lC_sub (by decide)) (L := [some (.inr 35), some (.inl (.int (5 : Int32)))]) (st := [.inr 68, .inl (.int (5 : Int32)), .inr 36]) rfl rfl (svC (by decide)) (svD (by decide)) (Nat.le_of_ble_eq_true rfl) (dkAt dk_X3_init 20 rfl) 41 rfl (cs1 := 38) (sl1 := 291) rfl rfl (fun _ ad hag => ?_)
  change G (gc Γ KT ad (lC 74)) X (mm81 M) 38 291 [some (.ref (ad 35)), some (.int (5 : Int32))] [.ref (ad 68), .int (5 : Int32), .ref (ad 36)] 41
  refine x_aast (C.gc KR.tt ad (lC 74)) (k := some) (rM := (mm82 M)) (n := 7) (n9 := 9) (by decide) (fun _ _ => trivial) (oc (by decide) (by decide) rfl) (oc (by decide) (by decide) rfl) (dkAt dk_X3_init 21 rfl) 42 rfl (if_pos (by decide)) (fun M1 hM => ?_)
  cases hM
  refine x_iinc (C.gc KR.tt ad (lC 74)) (v := (6 : Int32)) (L1 := [some (.ref (ad 35)), some (.int (6 : Int32))]) (dkAt dk_X3_init 22 rfl) 45 rfl rfl (by decide) (by decide) rfl ?_
  refine x_goto (C.gc KR.tt ad (lC 74)) 23 (dkAt dk_X3_init 23 rfl) (by decide) ?_
  refine x_iload_n (C.gc KR.tt ad (lC 74)) rfl rfl (dkAt dk_X3_init 12 rfl) 24 rfl ?_
  refine x_bipush (C.gc KR.tt ad (lC 74)) (v := (7 : Int32)) (by decide) (dkAt dk_X3_init 13 rfl) 26 rfl ?_
  refine x_icmp_ge (C.gc KR.tt ad (lC 74)) (a := none) (b := some ()) (rM := ()) 48 (dkAt dk_X3_init 14 rfl) 29 rfl (by decide) (if_neg (by decide)) (fun h => nomatch h) (fun _ => ?_)
  refine x_aload_n (C.gc KR.tt ad (lC 74)) rfl rfl (dkAt dk_X3_init 15 rfl) 30 rfl ?_
  refine d_getS C lk_RX3_11 (o := 35) (j := 36) (oc (n := 74) (by decide) (by decide) rfl) rfl (dkAt dk_X3_init 16 rfl) 33 rfl ?_
  refine x_iload_n (C.gc KR.tt ad (lC 74)) rfl rfl (dkAt dk_X3_init 17 rfl) 34 rfl ?_
  refine d_newC C (L := [some (.inr 35), some (.inl (.int (6 : Int32)))]) (st := [.inl (.int (6 : Int32)), .inr 36]) (by decide) rfl rc7 uw7 tyX7_ok kd_7 kl_RX3_9 ki_7 kn_7 ((zr82 hz).mono (by decide)) ⟨by decide, by decide⟩ hag (by decide) rfl rfl (svC (by decide)) (svD (by decide)) (dkAt dk_X3_init 18 rfl) 37 rfl (cs1 := 39) (sl1 := 300) rfl rfl (fun ad hag => ?_)
  change G (gc Γ KT ad (lC 75)) X (mm82 M) 39 300 [some (.ref (ad 35)), some (.int (6 : Int32))] [.ref (ad 74), .int (6 : Int32), .ref (ad 36)] 37
  refine x_dup (C.gc KR.tt ad (lC 75)) rfl (dkAt dk_X3_init 19 rfl) 38 rfl ?_
  refine d_cJ C (k_X7_init_74 hG hov hz) mw_X7_init ln_RX3_20 mii_X7_init ⟨by decide, by decide, by decide, by decide⟩ rfl hag (lC_sub (by decide)) (L := [some (.inr 35), some (.inl (.int (6 : Int32)))]) (st := [.inr 74, .inl (.int (6 : Int32)), .inr 36]) rfl rfl (svC (by decide)) (svD (by decide)) (Nat.le_of_ble_eq_true rfl) (dkAt dk_X3_init 20 rfl) 41 rfl (cs1 := 44) (sl1 := 338) rfl rfl (fun _ ad hag => ?_)
  change G (gc Γ KT ad (lC 80)) X (mm88 M) 44 338 [some (.ref (ad 35)), some (.int (6 : Int32))] [.ref (ad 74), .int (6 : Int32), .ref (ad 36)] 41
  refine x_aast (C.gc KR.tt ad (lC 80)) (k := some) (rM := (mm89 M)) (n := 7) (n9 := 9) (by decide) (fun _ _ => trivial) (oc (by decide) (by decide) rfl) (oc (by decide) (by decide) rfl) (dkAt dk_X3_init 21 rfl) 42 rfl (if_pos (by decide)) (fun M1 hM => ?_)
  cases hM
  refine x_iinc (C.gc KR.tt ad (lC 80)) (v := (7 : Int32)) (L1 := [some (.ref (ad 35)), some (.int (7 : Int32))]) (dkAt dk_X3_init 22 rfl) 45 rfl rfl (by decide) (by decide) rfl ?_
  refine x_goto (C.gc KR.tt ad (lC 80)) 23 (dkAt dk_X3_init 23 rfl) (by decide) ?_
  refine x_iload_n (C.gc KR.tt ad (lC 80)) rfl rfl (dkAt dk_X3_init 12 rfl) 24 rfl ?_
  refine x_bipush (C.gc KR.tt ad (lC 80)) (v := (7 : Int32)) (by decide) (dkAt dk_X3_init 13 rfl) 26 rfl ?_
  refine x_icmp_ge (C.gc KR.tt ad (lC 80)) (a := some ()) (b := none) (rM := ()) 48 (dkAt dk_X3_init 14 rfl) 29 rfl (by decide) (if_pos (by decide)) (fun _ => ?_) (fun h => nomatch h)
  refine x_iconst (C.gc KR.tt ad (lC 80)) (v := (0 : Int32)) (by decide) (dkAt dk_X3_init 24 rfl) 49 rfl ?_
  refine x_istore_n (C.gc KR.tt ad (lC 80)) (L1 := [some (.ref (ad 35)), some (.int (0 : Int32))]) (dkAt dk_X3_init 25 rfl) 50 rfl rfl (by decide) rfl ?_
  refine x_iload_n (C.gc KR.tt ad (lC 80)) rfl rfl (dkAt dk_X3_init 26 rfl) 51 rfl ?_
  refine x_iconst (C.gc KR.tt ad (lC 80)) (v := (2 : Int32)) (by decide) (dkAt dk_X3_init 27 rfl) 52 rfl ?_
  refine x_icmp_ge (C.gc KR.tt ad (lC 80)) (a := none) (b := some ()) (rM := ()) 74 (dkAt dk_X3_init 28 rfl) 55 rfl (by decide) (if_neg (by decide)) (fun h => nomatch h) (fun _ => ?_)
  refine x_aload_n (C.gc KR.tt ad (lC 80)) rfl rfl (dkAt dk_X3_init 29 rfl) 56 rfl ?_
  refine d_getS C lk_RX3_17 (o := 35) (j := 37) (oc (n := 80) (by decide) (by decide) rfl) rfl (dkAt dk_X3_init 30 rfl) 59 rfl ?_
  refine x_iload_n (C.gc KR.tt ad (lC 80)) rfl rfl (dkAt dk_X3_init 31 rfl) 60 rfl ?_
  refine d_newC C (L := [some (.inr 35), some (.inl (.int (0 : Int32)))]) (st := [.inl (.int (0 : Int32)), .inr 37]) (by decide) rfl rc7 uw7 tyX7_ok kd_7 kl_RX3_9 ki_7 kn_7 ((zr89 hz).mono (by decide)) ⟨by decide, by decide⟩ hag (by decide) rfl rfl (svC (by decide)) (svD (by decide)) (dkAt dk_X3_init 32 rfl) 63 rfl (cs1 := 45) (sl1 := 347) rfl rfl (fun ad hag => ?_)
  change G (gc Γ KT ad (lC 81)) X (mm89 M) 45 347 [some (.ref (ad 35)), some (.int (0 : Int32))] [.ref (ad 80), .int (0 : Int32), .ref (ad 37)] 63
  refine x_dup (C.gc KR.tt ad (lC 81)) rfl (dkAt dk_X3_init 33 rfl) 64 rfl ?_
  refine d_cJ C (k_X7_init_80 hG hov hz) mw_X7_init ln_RX3_20 mii_X7_init ⟨by decide, by decide, by decide, by decide⟩ rfl hag (lC_sub (by decide)) (L := [some (.inr 35), some (.inl (.int (0 : Int32)))]) (st := [.inr 80, .inl (.int (0 : Int32)), .inr 37]) rfl rfl (svC (by decide)) (svD (by decide)) (Nat.le_of_ble_eq_true rfl) (dkAt dk_X3_init 34 rfl) 67 rfl (cs1 := 50) (sl1 := 385) rfl rfl (fun _ ad hag => ?_)
  change G (gc Γ KT ad (lC 86)) X (mm95 M) 50 385 [some (.ref (ad 35)), some (.int (0 : Int32))] [.ref (ad 80), .int (0 : Int32), .ref (ad 37)] 67
  refine x_aast (C.gc KR.tt ad (lC 86)) (k := some) (rM := (mm96 M)) (n := 2) (n9 := 9) (by decide) (fun _ _ => trivial) (oc (by decide) (by decide) rfl) (oc (by decide) (by decide) rfl) (dkAt dk_X3_init 35 rfl) 68 rfl (if_pos (by decide)) (fun M1 hM => ?_)
  cases hM
  refine x_iinc (C.gc KR.tt ad (lC 86)) (v := (1 : Int32)) (L1 := [some (.ref (ad 35)), some (.int (1 : Int32))]) (dkAt dk_X3_init 36 rfl) 71 rfl rfl (by decide) (by decide) rfl ?_
  refine x_goto (C.gc KR.tt ad (lC 86)) 50 (dkAt dk_X3_init 37 rfl) (by decide) ?_
  refine x_iload_n (C.gc KR.tt ad (lC 86)) rfl rfl (dkAt dk_X3_init 26 rfl) 51 rfl ?_
  refine x_iconst (C.gc KR.tt ad (lC 86)) (v := (2 : Int32)) (by decide) (dkAt dk_X3_init 27 rfl) 52 rfl ?_
  refine x_icmp_ge (C.gc KR.tt ad (lC 86)) (a := none) (b := some ()) (rM := ()) 74 (dkAt dk_X3_init 28 rfl) 55 rfl (by decide) (if_neg (by decide)) (fun h => nomatch h) (fun _ => ?_)
  refine x_aload_n (C.gc KR.tt ad (lC 86)) rfl rfl (dkAt dk_X3_init 29 rfl) 56 rfl ?_
  refine d_getS C lk_RX3_17 (o := 35) (j := 37) (oc (n := 86) (by decide) (by decide) rfl) rfl (dkAt dk_X3_init 30 rfl) 59 rfl ?_
  refine x_iload_n (C.gc KR.tt ad (lC 86)) rfl rfl (dkAt dk_X3_init 31 rfl) 60 rfl ?_
  refine d_newC C (L := [some (.inr 35), some (.inl (.int (1 : Int32)))]) (st := [.inl (.int (1 : Int32)), .inr 37]) (by decide) rfl rc7 uw7 tyX7_ok kd_7 kl_RX3_9 ki_7 kn_7 ((zr96 hz).mono (by decide)) ⟨by decide, by decide⟩ hag (by decide) rfl rfl (svC (by decide)) (svD (by decide)) (dkAt dk_X3_init 32 rfl) 63 rfl (cs1 := 51) (sl1 := 394) rfl rfl (fun ad hag => ?_)
  change G (gc Γ KT ad (lC 87)) X (mm96 M) 51 394 [some (.ref (ad 35)), some (.int (1 : Int32))] [.ref (ad 86), .int (1 : Int32), .ref (ad 37)] 63
  refine x_dup (C.gc KR.tt ad (lC 87)) rfl (dkAt dk_X3_init 33 rfl) 64 rfl ?_
  refine d_cJ C (k_X7_init_86 hG hov hz) mw_X7_init ln_RX3_20 mii_X7_init ⟨by decide, by decide, by decide, by decide⟩ rfl hag (lC_sub (by decide)) (L := [some (.inr 35), some (.inl (.int (1 : Int32)))]) (st := [.inr 86, .inl (.int (1 : Int32)), .inr 37]) rfl rfl (svC (by decide)) (svD (by decide)) (Nat.le_of_ble_eq_true rfl) (dkAt dk_X3_init 34 rfl) 67 rfl (cs1 := 56) (sl1 := 432) rfl rfl (fun _ ad hag => ?_)
  change G (gc Γ KT ad (lC 92)) X (mm102 M) 56 432 [some (.ref (ad 35)), some (.int (1 : Int32))] [.ref (ad 86), .int (1 : Int32), .ref (ad 37)] 67
  refine x_aast (C.gc KR.tt ad (lC 92)) (k := some) (rM := (mm103 M)) (n := 2) (n9 := 9) (by decide) (fun _ _ => trivial) (oc (by decide) (by decide) rfl) (oc (by decide) (by decide) rfl) (dkAt dk_X3_init 35 rfl) 68 rfl (if_pos (by decide)) (fun M1 hM => ?_)
  cases hM
  refine x_iinc (C.gc KR.tt ad (lC 92)) (v := (2 : Int32)) (L1 := [some (.ref (ad 35)), some (.int (2 : Int32))]) (dkAt dk_X3_init 36 rfl) 71 rfl rfl (by decide) (by decide) rfl ?_
  refine x_goto (C.gc KR.tt ad (lC 92)) 50 (dkAt dk_X3_init 37 rfl) (by decide) ?_
  refine x_iload_n (C.gc KR.tt ad (lC 92)) rfl rfl (dkAt dk_X3_init 26 rfl) 51 rfl ?_
  refine x_iconst (C.gc KR.tt ad (lC 92)) (v := (2 : Int32)) (by decide) (dkAt dk_X3_init 27 rfl) 52 rfl ?_
  refine x_icmp_ge (C.gc KR.tt ad (lC 92)) (a := some ()) (b := none) (rM := ()) 74 (dkAt dk_X3_init 28 rfl) 55 rfl (by decide) (if_pos (by decide)) (fun _ => ?_) (fun h => nomatch h)
  exact d_vret (K9 := KT) C E hag (fun h => h) (by decide) (by decide) (dkAt dk_X3_init 38 rfl)
set_option maxRecDepth 100000 in
theorem k_X8_init_92 {Γ : WC} {M : Mem} (hG : HG Γ) (hov : va_AO "DecisionChain$Settings" (wU Γ)) (hz : Zc 0 M) : CtD Γ KT KT yX8_init cX8_init 2 none (rmL 1 3 5988) (lC 93) (lC 96) [.inr 92, .inr 3] (mm105 M) none (mm109 M) := by
  refine mkD hG (own := RX8) rfl (by decide) (fun _ => Nat.le_of_ble_eq_true rfl) (fun ad0 X C hI0 E => ?_)
  have hI := hI0 rfl
  have hag : agr (lC 93) ad0 ad0 := agr.rfl
  change G (gc Γ KT ad0 (lC 93)) X (mm105 M) 0 0 [some (.ref (ad0 92)), some (.ref (ad0 3))] [] 0
  refine x_aload_n (C.gc KR.tt ad0 (lC 93)) rfl rfl (dkAt dk_X8_init 0 rfl) 1 rfl ?_
  refine d_obj C lo_RX8_3 mi_obj cw_obj ⟨by decide, by decide⟩ (by decide) (dkAt dk_X8_init 1 rfl) 4 rfl ?_
  refine x_aload_n (C.gc KR.tt ad0 (lC 93)) rfl rfl (dkAt dk_X8_init 2 rfl) 5 rfl ?_
  refine x_sipush (C.gc KR.tt ad0 (lC 93)) (v := (2976 : Int32)) (by decide) (dkAt dk_X8_init 3 rfl) 8 rfl ?_
  refine d_newaC C (ty := .long) (L := [some (.inr 92), some (.inr 3)]) (st := [.inr 92]) (by decide) rfl (by decide) rfl ka_long rfl (fun _ => rfl) ⟨by decide, by decide, by decide⟩ ((zr105 hz).mono (by decide)) ⟨by decide, by decide⟩ hag (by decide) rfl rfl (svC (by decide)) (svD (by decide)) (dkAt dk_X8_init 4 rfl) 10 rfl (cs1 := 1) (sl1 := 2976) rfl rfl (fun ad hag => ?_)
  change G (gc Γ KT ad (lC 94)) X (mm105 M) 1 2976 [some (.ref (ad 92)), some (.ref (ad 3))] [.ref (ad 93), .ref (ad 92)] 10
  refine x_putR (C.gc KR.tt ad (lC 94)) (kk := some) (rM := (mm106 M)) (fun _ _ => trivial) pk_RX8_11 ⟨_, rfl⟩ (oc (by decide) (by decide) rfl) (dkAt dk_X8_init 5 rfl) 13 rfl rfl (fun M1 hM => ?_)
  cases hM
  refine x_aload_n (C.gc KR.tt ad (lC 94)) rfl rfl (dkAt dk_X8_init 6 rfl) 14 rfl ?_
  refine x_sipush (C.gc KR.tt ad (lC 94)) (v := (2976 : Int32)) (by decide) (dkAt dk_X8_init 7 rfl) 17 rfl ?_
  refine d_newaC C (ty := .long) (L := [some (.inr 92), some (.inr 3)]) (st := [.inr 92]) (by decide) rfl (by decide) rfl ka_long rfl (fun _ => rfl) ⟨by decide, by decide, by decide⟩ ((zr106 hz).mono (by decide)) ⟨by decide, by decide⟩ hag (by decide) rfl rfl (svC (by decide)) (svD (by decide)) (dkAt dk_X8_init 8 rfl) 19 rfl (cs1 := 2) (sl1 := 5952) rfl rfl (fun ad hag => ?_)
  change G (gc Γ KT ad (lC 95)) X (mm106 M) 2 5952 [some (.ref (ad 92)), some (.ref (ad 3))] [.ref (ad 94), .ref (ad 92)] 19
  refine x_putR (C.gc KR.tt ad (lC 95)) (kk := some) (rM := (mm107 M)) (fun _ _ => trivial) pk_RX8_15 ⟨_, rfl⟩ (oc (by decide) (by decide) rfl) (dkAt dk_X8_init 9 rfl) 22 rfl rfl (fun M1 hM => ?_)
  cases hM
  refine x_aload_n (C.gc KR.tt ad (lC 95)) rfl rfl (dkAt dk_X8_init 10 rfl) 23 rfl ?_
  refine x_bipush (C.gc KR.tt ad (lC 95)) (v := (36 : Int32)) (by decide) (dkAt dk_X8_init 11 rfl) 25 rfl ?_
  refine d_newaC C (ty := .int) (L := [some (.inr 92), some (.inr 3)]) (st := [.inr 92]) (by decide) rfl (by decide) rfl ka_int rfl (fun _ => rfl) ⟨by decide, by decide, by decide⟩ ((zr107 hz).mono (by decide)) ⟨by decide, by decide⟩ hag (by decide) rfl rfl (svC (by decide)) (svD (by decide)) (dkAt dk_X8_init 12 rfl) 27 rfl (cs1 := 3) (sl1 := 5988) rfl rfl (fun ad hag => ?_)
  change G (gc Γ KT ad (lC 96)) X (mm107 M) 3 5988 [some (.ref (ad 92)), some (.ref (ad 3))] [.ref (ad 95), .ref (ad 92)] 27
  refine x_putFR (C.gc KR.tt ad (lC 96)) hI (kk := some) (rM := (mm108 M)) (fun _ _ => trivial) pkf_RX8_18 ⟨_, rfl⟩ (oc (by decide) (by decide) rfl) (dkAt dk_X8_init 13 rfl) 30 rfl rfl (fun M1 hM => ?_)
  cases hM
  refine x_aload_n (C.gc KR.tt ad (lC 96)) rfl rfl (dkAt dk_X8_init 14 rfl) 31 rfl ?_
  refine x_aload_n (C.gc KR.tt ad (lC 96)) rfl rfl (dkAt dk_X8_init 15 rfl) 32 rfl ?_
  refine x_putFR (C.gc KR.tt ad (lC 96)) hI (kk := some) (rM := (mm109 M)) (fun _ _ => trivial) pkf_RX8_22 ⟨_, rfl⟩ (oc (by decide) (by decide) rfl) (dkAt dk_X8_init 16 rfl) 35 rfl rfl (fun M1 hM => ?_)
  cases hM
  exact d_vret (K9 := KT) C E hag (fun h => h) (by decide) (by decide) (dkAt dk_X8_init 17 rfl)
set_option maxRecDepth 100000 in
theorem k_X5_init_96 {Γ : WC} {M : Mem} (hG : HG Γ) (hov : va_AO "DecisionChain$Settings" (wU Γ)) (hz : Zc 0 M) : CtD Γ KT KT yX5_init cX5_init 4 none (rmL 1 5 2946) (lC 97) (lC 102) [.inr 96, .inr 3, .inr 10, .inr 16] (mm110 M) none (mm120 M) := by
  refine mkD hG (own := RX5) rfl (by decide) (fun _ => Nat.le_of_ble_eq_true rfl) (fun ad0 X C hI0 E => ?_)
  have hI := hI0 rfl
  have hag : agr (lC 97) ad0 ad0 := agr.rfl
  change G (gc Γ KT ad0 (lC 97)) X (mm110 M) 0 0 [some (.ref (ad0 96)), some (.ref (ad0 3)), some (.ref (ad0 10)), some (.ref (ad0 16))] [] 0
  refine x_aload_n (C.gc KR.tt ad0 (lC 97)) rfl rfl (dkAt dk_X5_init 0 rfl) 1 rfl ?_
  refine d_obj C lo_RX5_3 mi_obj cw_obj ⟨by decide, by decide⟩ (by decide) (dkAt dk_X5_init 1 rfl) 4 rfl ?_
  refine x_aload_n (C.gc KR.tt ad0 (lC 97)) rfl rfl (dkAt dk_X5_init 2 rfl) 5 rfl ?_
  refine x_sipush (C.gc KR.tt ad0 (lC 97)) (v := (729 : Int32)) (by decide) (dkAt dk_X5_init 3 rfl) 8 rfl ?_
  refine d_newaC C (ty := .long) (L := [some (.inr 96), some (.inr 3), some (.inr 10), some (.inr 16)]) (st := [.inr 96]) (by decide) rfl (by decide) rfl ka_long rfl (fun _ => rfl) ⟨by decide, by decide, by decide⟩ ((zr110 hz).mono (by decide)) ⟨by decide, by decide⟩ hag (by decide) rfl rfl (svC (by decide)) (svD (by decide)) (dkAt dk_X5_init 4 rfl) 10 rfl (cs1 := 1) (sl1 := 729) rfl rfl (fun ad hag => ?_)
  change G (gc Γ KT ad (lC 98)) X (mm110 M) 1 729 [some (.ref (ad 96)), some (.ref (ad 3)), some (.ref (ad 10)), some (.ref (ad 16))] [.ref (ad 97), .ref (ad 96)] 10
  refine x_putFR (C.gc KR.tt ad (lC 98)) hI (kk := some) (rM := (mm111 M)) (fun _ _ => trivial) pkf_RX5_9 ⟨_, rfl⟩ (oc (by decide) (by decide) rfl) (dkAt dk_X5_init 5 rfl) 13 rfl rfl (fun M1 hM => ?_)
  cases hM
  refine x_aload_n (C.gc KR.tt ad (lC 98)) rfl rfl (dkAt dk_X5_init 6 rfl) 14 rfl ?_
  refine x_sipush (C.gc KR.tt ad (lC 98)) (v := (2187 : Int32)) (by decide) (dkAt dk_X5_init 7 rfl) 17 rfl ?_
  refine d_newaC C (ty := .long) (L := [some (.inr 96), some (.inr 3), some (.inr 10), some (.inr 16)]) (st := [.inr 96]) (by decide) rfl (by decide) rfl ka_long rfl (fun _ => rfl) ⟨by decide, by decide, by decide⟩ ((zr111 hz).mono (by decide)) ⟨by decide, by decide⟩ hag (by decide) rfl rfl (svC (by decide)) (svD (by decide)) (dkAt dk_X5_init 8 rfl) 19 rfl (cs1 := 2) (sl1 := 2916) rfl rfl (fun ad hag => ?_)
  change G (gc Γ KT ad (lC 99)) X (mm111 M) 2 2916 [some (.ref (ad 96)), some (.ref (ad 3)), some (.ref (ad 10)), some (.ref (ad 16))] [.ref (ad 98), .ref (ad 96)] 19
  refine x_putFR (C.gc KR.tt ad (lC 99)) hI (kk := some) (rM := (mm112 M)) (fun _ _ => trivial) pkf_RX5_15 ⟨_, rfl⟩ (oc (by decide) (by decide) rfl) (dkAt dk_X5_init 9 rfl) 22 rfl rfl (fun M1 hM => ?_)
  cases hM
  refine x_aload_n (C.gc KR.tt ad (lC 99)) rfl rfl (dkAt dk_X5_init 10 rfl) 23 rfl ?_
  refine x_iconst (C.gc KR.tt ad (lC 99)) (v := (-1 : Int32)) (by decide) (dkAt dk_X5_init 11 rfl) 24 rfl ?_
  refine x_putI (C.gc KR.tt ad (lC 99)) (kk := some) (rM := (mm113 M)) pk_RX5_18 ⟨_, rfl⟩ (oc (by decide) (by decide) rfl) (dkAt dk_X5_init 12 rfl) 27 rfl rfl (fun M1 hM => ?_)
  cases hM
  refine x_aload_n (C.gc KR.tt ad (lC 99)) rfl rfl (dkAt dk_X5_init 13 rfl) 28 rfl ?_
  refine x_iconst (C.gc KR.tt ad (lC 99)) (v := (-1 : Int32)) (by decide) (dkAt dk_X5_init 14 rfl) 29 rfl ?_
  refine x_putI (C.gc KR.tt ad (lC 99)) (kk := some) (rM := (mm114 M)) pk_RX5_22 ⟨_, rfl⟩ (oc (by decide) (by decide) rfl) (dkAt dk_X5_init 15 rfl) 32 rfl rfl (fun M1 hM => ?_)
  cases hM
  refine x_aload_n (C.gc KR.tt ad (lC 99)) rfl rfl (dkAt dk_X5_init 16 rfl) 33 rfl ?_
  refine x_bipush (C.gc KR.tt ad (lC 99)) (v := (6 : Int32)) (by decide) (dkAt dk_X5_init 17 rfl) 35 rfl ?_
  refine d_newaC C (ty := .int) (L := [some (.inr 96), some (.inr 3), some (.inr 10), some (.inr 16)]) (st := [.inr 96]) (by decide) rfl (by decide) rfl ka_int rfl (fun _ => rfl) ⟨by decide, by decide, by decide⟩ ((zr114 hz).mono (by decide)) ⟨by decide, by decide⟩ hag (by decide) rfl rfl (svC (by decide)) (svD (by decide)) (dkAt dk_X5_init 18 rfl) 37 rfl (cs1 := 3) (sl1 := 2922) rfl rfl (fun ad hag => ?_)
  change G (gc Γ KT ad (lC 100)) X (mm114 M) 3 2922 [some (.ref (ad 96)), some (.ref (ad 3)), some (.ref (ad 10)), some (.ref (ad 16))] [.ref (ad 99), .ref (ad 96)] 37
  refine x_putFR (C.gc KR.tt ad (lC 100)) hI (kk := some) (rM := (mm115 M)) (fun _ _ => trivial) pkf_RX5_25 ⟨_, rfl⟩ (oc (by decide) (by decide) rfl) (dkAt dk_X5_init 19 rfl) 40 rfl rfl (fun M1 hM => ?_)
  cases hM
  refine x_aload_n (C.gc KR.tt ad (lC 100)) rfl rfl (dkAt dk_X5_init 20 rfl) 41 rfl ?_
  refine x_bipush (C.gc KR.tt ad (lC 100)) (v := (18 : Int32)) (by decide) (dkAt dk_X5_init 21 rfl) 43 rfl ?_
  refine d_newaC C (ty := .int) (L := [some (.inr 96), some (.inr 3), some (.inr 10), some (.inr 16)]) (st := [.inr 96]) (by decide) rfl (by decide) rfl ka_int rfl (fun _ => rfl) ⟨by decide, by decide, by decide⟩ ((zr115 hz).mono (by decide)) ⟨by decide, by decide⟩ hag (by decide) rfl rfl (svC (by decide)) (svD (by decide)) (dkAt dk_X5_init 22 rfl) 45 rfl (cs1 := 4) (sl1 := 2940) rfl rfl (fun ad hag => ?_)
  change G (gc Γ KT ad (lC 101)) X (mm115 M) 4 2940 [some (.ref (ad 96)), some (.ref (ad 3)), some (.ref (ad 10)), some (.ref (ad 16))] [.ref (ad 100), .ref (ad 96)] 45
  refine x_putFR (C.gc KR.tt ad (lC 101)) hI (kk := some) (rM := (mm116 M)) (fun _ _ => trivial) pkf_RX5_29 ⟨_, rfl⟩ (oc (by decide) (by decide) rfl) (dkAt dk_X5_init 23 rfl) 48 rfl rfl (fun M1 hM => ?_)
  cases hM
  refine x_aload_n (C.gc KR.tt ad (lC 101)) rfl rfl (dkAt dk_X5_init 24 rfl) 49 rfl ?_
  refine x_bipush (C.gc KR.tt ad (lC 101)) (v := (6 : Int32)) (by decide) (dkAt dk_X5_init 25 rfl) 51 rfl ?_
  refine d_newaC C (ty := .int) (L := [some (.inr 96), some (.inr 3), some (.inr 10), some (.inr 16)]) (st := [.inr 96]) (by decide) rfl (by decide) rfl ka_int rfl (fun _ => rfl) ⟨by decide, by decide, by decide⟩ ((zr116 hz).mono (by decide)) ⟨by decide, by decide⟩ hag (by decide) rfl rfl (svC (by decide)) (svD (by decide)) (dkAt dk_X5_init 26 rfl) 53 rfl (cs1 := 5) (sl1 := 2946) rfl rfl (fun ad hag => ?_)
  change G (gc Γ KT ad (lC 102)) X (mm116 M) 5 2946 [some (.ref (ad 96)), some (.ref (ad 3)), some (.ref (ad 10)), some (.ref (ad 16))] [.ref (ad 101), .ref (ad 96)] 53
  refine x_putFR (C.gc KR.tt ad (lC 102)) hI (kk := some) (rM := (mm117 M)) (fun _ _ => trivial) pkf_RX5_32 ⟨_, rfl⟩ (oc (by decide) (by decide) rfl) (dkAt dk_X5_init 27 rfl) 56 rfl rfl (fun M1 hM => ?_)
  cases hM
  refine x_aload_n (C.gc KR.tt ad (lC 102)) rfl rfl (dkAt dk_X5_init 28 rfl) 57 rfl ?_
  refine x_aload_n (C.gc KR.tt ad (lC 102)) rfl rfl (dkAt dk_X5_init 29 rfl) 58 rfl ?_
  refine x_putFR (C.gc KR.tt ad (lC 102)) hI (kk := some) (rM := (mm118 M)) (fun _ _ => trivial) pkf_RX5_35 ⟨_, rfl⟩ (oc (by decide) (by decide) rfl) (dkAt dk_X5_init 30 rfl) 61 rfl rfl (fun M1 hM => ?_)
  cases hM
  refine x_aload_n (C.gc KR.tt ad (lC 102)) rfl rfl (dkAt dk_X5_init 31 rfl) 62 rfl ?_
  refine x_aload_n (C.gc KR.tt ad (lC 102)) rfl rfl (dkAt dk_X5_init 32 rfl) 63 rfl ?_
  refine x_putFR (C.gc KR.tt ad (lC 102)) hI (kk := some) (rM := (mm119 M)) (fun _ _ => trivial) pkf_RX5_39 ⟨_, rfl⟩ (oc (by decide) (by decide) rfl) (dkAt dk_X5_init 33 rfl) 66 rfl rfl (fun M1 hM => ?_)
  cases hM
  refine x_aload_n (C.gc KR.tt ad (lC 102)) rfl rfl (dkAt dk_X5_init 34 rfl) 67 rfl ?_
  refine x_aload_n (C.gc KR.tt ad (lC 102)) rfl rfl (dkAt dk_X5_init 35 rfl) 68 rfl ?_
  refine x_putFR (C.gc KR.tt ad (lC 102)) hI (kk := some) (rM := (mm120 M)) (fun _ _ => trivial) pkf_RX5_43 ⟨_, rfl⟩ (oc (by decide) (by decide) rfl) (dkAt dk_X5_init 36 rfl) 71 rfl rfl (fun M1 hM => ?_)
  cases hM
  exact d_vret (K9 := KT) C E hag (fun h => h) (by decide) (by decide) (dkAt dk_X5_init 37 rfl)
set_option maxRecDepth 100000 in
theorem k_X9_init_102 {Γ : WC} {M : Mem} (hG : HG Γ) (hov : va_AO "DecisionChain$Settings" (wU Γ)) (hz : Zc 0 M) : CtD Γ KT KT yX9_init cX9_init 3 none (rmL 1 1 36) (lC 103) (lC 104) [.inr 102, .inr 3, .inr 10] (mm121 M) none (mm124 M) := by
  refine mkD hG (own := RX9) rfl (by decide) (fun _ => Nat.le_of_ble_eq_true rfl) (fun ad0 X C hI0 E => ?_)
  have hI := hI0 rfl
  have hag : agr (lC 103) ad0 ad0 := agr.rfl
  change G (gc Γ KT ad0 (lC 103)) X (mm121 M) 0 0 [some (.ref (ad0 102)), some (.ref (ad0 3)), some (.ref (ad0 10))] [] 0
  refine x_aload_n (C.gc KR.tt ad0 (lC 103)) rfl rfl (dkAt dk_X9_init 0 rfl) 1 rfl ?_
  refine d_obj C lo_RX9_3 mi_obj cw_obj ⟨by decide, by decide⟩ (by decide) (dkAt dk_X9_init 1 rfl) 4 rfl ?_
  refine x_aload_n (C.gc KR.tt ad0 (lC 103)) rfl rfl (dkAt dk_X9_init 2 rfl) 5 rfl ?_
  refine x_bipush (C.gc KR.tt ad0 (lC 103)) (v := (36 : Int32)) (by decide) (dkAt dk_X9_init 3 rfl) 7 rfl ?_
  refine d_newaC C (ty := .long) (L := [some (.inr 102), some (.inr 3), some (.inr 10)]) (st := [.inr 102]) (by decide) rfl (by decide) rfl ka_long rfl (fun _ => rfl) ⟨by decide, by decide, by decide⟩ ((zr121 hz).mono (by decide)) ⟨by decide, by decide⟩ hag (by decide) rfl rfl (svC (by decide)) (svD (by decide)) (dkAt dk_X9_init 4 rfl) 9 rfl (cs1 := 1) (sl1 := 36) rfl rfl (fun ad hag => ?_)
  change G (gc Γ KT ad (lC 104)) X (mm121 M) 1 36 [some (.ref (ad 102)), some (.ref (ad 3)), some (.ref (ad 10))] [.ref (ad 103), .ref (ad 102)] 9
  refine x_putFR (C.gc KR.tt ad (lC 104)) hI (kk := some) (rM := (mm122 M)) (fun _ _ => trivial) pkf_RX9_9 ⟨_, rfl⟩ (oc (by decide) (by decide) rfl) (dkAt dk_X9_init 5 rfl) 12 rfl rfl (fun M1 hM => ?_)
  cases hM
  refine x_aload_n (C.gc KR.tt ad (lC 104)) rfl rfl (dkAt dk_X9_init 6 rfl) 13 rfl ?_
  refine x_aload_n (C.gc KR.tt ad (lC 104)) rfl rfl (dkAt dk_X9_init 7 rfl) 14 rfl ?_
  refine x_putFR (C.gc KR.tt ad (lC 104)) hI (kk := some) (rM := (mm123 M)) (fun _ _ => trivial) pkf_RX9_15 ⟨_, rfl⟩ (oc (by decide) (by decide) rfl) (dkAt dk_X9_init 8 rfl) 17 rfl rfl (fun M1 hM => ?_)
  cases hM
  refine x_aload_n (C.gc KR.tt ad (lC 104)) rfl rfl (dkAt dk_X9_init 9 rfl) 18 rfl ?_
  refine x_aload_n (C.gc KR.tt ad (lC 104)) rfl rfl (dkAt dk_X9_init 10 rfl) 19 rfl ?_
  refine x_putFR (C.gc KR.tt ad (lC 104)) hI (kk := some) (rM := (mm124 M)) (fun _ _ => trivial) pkf_RX9_19 ⟨_, rfl⟩ (oc (by decide) (by decide) rfl) (dkAt dk_X9_init 11 rfl) 22 rfl rfl (fun M1 hM => ?_)
  cases hM
  exact d_vret (K9 := KT) C E hag (fun h => h) (by decide) (by decide) (dkAt dk_X9_init 12 rfl)
set_option maxRecDepth 100000 in
theorem k_X10_init_104 {Γ : WC} {M : Mem} (hG : HG Γ) (hov : va_AO "DecisionChain$Settings" (wU Γ)) (hz : Zc 0 M) : CtD Γ KT KT yX10_init cX10_init 2 none (rmL 1 0 0) (lC 105) (lC 105) [.inr 104, .inr 3] (mm125 M) none (mm126 M) := by
  refine mkD hG (own := RX10) rfl (by decide) (fun _ => Nat.le_of_ble_eq_true rfl) (fun ad0 X C hI0 E => ?_)
  have hI := hI0 rfl
  have hag : agr (lC 105) ad0 ad0 := agr.rfl
  change G (gc Γ KT ad0 (lC 105)) X (mm125 M) 0 0 [some (.ref (ad0 104)), some (.ref (ad0 3))] [] 0
  refine x_aload_n (C.gc KR.tt ad0 (lC 105)) rfl rfl (dkAt dk_X10_init 0 rfl) 1 rfl ?_
  refine d_obj C lo_RX10_3 mi_obj cw_obj ⟨by decide, by decide⟩ (by decide) (dkAt dk_X10_init 1 rfl) 4 rfl ?_
  refine x_aload_n (C.gc KR.tt ad0 (lC 105)) rfl rfl (dkAt dk_X10_init 2 rfl) 5 rfl ?_
  refine x_aload_n (C.gc KR.tt ad0 (lC 105)) rfl rfl (dkAt dk_X10_init 3 rfl) 6 rfl ?_
  refine x_putFR (C.gc KR.tt ad0 (lC 105)) hI (kk := some) (rM := (mm126 M)) (fun _ _ => trivial) pkf_RX10_9 ⟨_, rfl⟩ (oc (by decide) (by decide) rfl) (dkAt dk_X10_init 4 rfl) 9 rfl rfl (fun M1 hM => ?_)
  cases hM
  exact d_vret (K9 := KT) C E hag (fun h => h) (by decide) (by decide) (dkAt dk_X10_init 5 rfl)
set_option maxRecDepth 100000 in
theorem k_X6_init_105 {Γ : WC} {M : Mem} (hG : HG Γ) (hov : va_AO "DecisionChain$Settings" (wU Γ)) (hz : Zc 0 M) : CtD Γ KT KT yX6_init cX6_init 1 none (rmL 1 1 114) (lC 106) (lC 107) [.inr 105] (mm127 M) none (mm128 M) := by
  refine mkD hG (own := RX6) rfl (by decide) (fun _ => Nat.le_of_ble_eq_true rfl) (fun ad0 X C hI0 E => ?_)
  have hI := hI0 rfl
  have hag : agr (lC 106) ad0 ad0 := agr.rfl
  change G (gc Γ KT ad0 (lC 106)) X (mm127 M) 0 0 [some (.ref (ad0 105))] [] 0
  refine x_aload_n (C.gc KR.tt ad0 (lC 106)) rfl rfl (dkAt dk_X6_init 0 rfl) 1 rfl ?_
  refine d_obj C lo_RX6_3 mi_obj cw_obj ⟨by decide, by decide⟩ (by decide) (dkAt dk_X6_init 1 rfl) 4 rfl ?_
  refine x_aload_n (C.gc KR.tt ad0 (lC 106)) rfl rfl (dkAt dk_X6_init 2 rfl) 5 rfl ?_
  refine x_bipush (C.gc KR.tt ad0 (lC 106)) (v := (114 : Int32)) (by decide) (dkAt dk_X6_init 3 rfl) 7 rfl ?_
  refine d_newaC C (ty := .byte) (L := [some (.inr 105)]) (st := [.inr 105]) (by decide) rfl (by decide) rfl ka_byte rfl (fun _ => rfl) ⟨by decide, by decide, by decide⟩ ((zr127 hz).mono (by decide)) ⟨by decide, by decide⟩ hag (by decide) rfl rfl (svC (by decide)) (svD (by decide)) (dkAt dk_X6_init 4 rfl) 9 rfl (cs1 := 1) (sl1 := 114) rfl rfl (fun ad hag => ?_)
  change G (gc Γ KT ad (lC 107)) X (mm127 M) 1 114 [some (.ref (ad 105))] [.ref (ad 106), .ref (ad 105)] 9
  refine x_putFR (C.gc KR.tt ad (lC 107)) hI (kk := some) (rM := (mm128 M)) (fun _ _ => trivial) pkf_RX6_11 ⟨_, rfl⟩ (oc (by decide) (by decide) rfl) (dkAt dk_X6_init 5 rfl) 12 rfl rfl (fun M1 hM => ?_)
  cases hM
  exact d_vret (K9 := KT) C E hag (fun h => h) (by decide) (by decide) (dkAt dk_X6_init 6 rfl)
set_option maxRecDepth 100000 in
theorem k_X11_init_0 {Γ : WC} {M : Mem} (hG : HG Γ) (hov : va_AO "DecisionChain$Settings" (wU Γ)) (hz : Zc 0 M) : CtD Γ KT KT yX11_init cX11_init 5 none (rmL 3 107 11661) (lC 1) (lC 108) [.inr 0] M none (mm130 M) := by
  refine mkD hG (own := RX11) rfl (by decide) (fun _ => Nat.le_of_ble_eq_true rfl) (fun ad0 X C hI0 E => ?_)
  have hI := hI0 rfl
  have hag : agr (lC 1) ad0 ad0 := agr.rfl
  change G (gc Γ KT ad0 (lC 1)) X M 0 0 [some (.ref (ad0 0))] [] 0
  refine x_aload_n (C.gc KR.tt ad0 (lC 1)) rfl rfl (dkAt dk_X11_init 0 rfl) 1 rfl ?_
  refine d_obj C lo_RX11_5 mi_obj cw_obj ⟨by decide, by decide⟩ (by decide) (dkAt dk_X11_init 1 rfl) 4 rfl ?_
  refine d_newC C (L := [some (.inr 0)]) (st := []) (by decide) rfl rc2 uw2 tyX2_ok kd_2 kl_RX11_11 ki_2 kn_2 (hz.mono (by decide)) ⟨by decide, by decide⟩ hag (by decide) rfl rfl (svC (by decide)) (svD (by decide)) (dkAt dk_X11_init 2 rfl) 7 rfl (cs1 := 1) (sl1 := 7) rfl rfl (fun ad hag => ?_)
  change G (gc Γ KT ad (lC 2)) X M 1 7 [some (.ref (ad 0))] [.ref (ad 1)] 7
  refine x_dup (C.gc KR.tt ad (lC 2)) rfl (dkAt dk_X11_init 3 rfl) 8 rfl ?_
  refine d_cJ C (k_X2_init_1 hG hov hz) mw_X2_init ln_RX11_13 mii_X2_init ⟨by decide, by decide, by decide, by decide⟩ rfl hag (lC_sub (by decide)) (L := [some (.inr 0)]) (st := [.inr 1]) rfl rfl (svC (by decide)) (svD (by decide)) (Nat.le_of_ble_eq_true rfl) (dkAt dk_X11_init 4 rfl) 11 rfl (cs1 := 2) (sl1 := 1207) rfl rfl (fun _ ad hag => ?_)
  change G (gc Γ KT ad (lC 3)) X (mm1 M) 2 1207 [some (.ref (ad 0))] [.ref (ad 1)] 11
  refine x_astore_n (C.gc KR.tt ad (lC 3)) (L1 := [some (.ref (ad 0)), some (.ref (ad 1))]) (dkAt dk_X11_init 5 rfl) 12 rfl rfl (by decide) rfl ?_
  refine d_newC C (L := [some (.inr 0), some (.inr 1)]) (st := []) (by decide) rfl rc0 uw0 tyX0_ok kd_0 kl_RX11_14 ki_0 kn_0 ((zr1 hz).mono (by decide)) ⟨by decide, by decide⟩ hag (by decide) rfl rfl (svC (by decide)) (svD (by decide)) (dkAt dk_X11_init 6 rfl) 15 rfl (cs1 := 3) (sl1 := 1215) rfl rfl (fun ad hag => ?_)
  change G (gc Γ KT ad (lC 4)) X (mm1 M) 3 1215 [some (.ref (ad 0)), some (.ref (ad 1))] [.ref (ad 3)] 15
  refine x_dup (C.gc KR.tt ad (lC 4)) rfl (dkAt dk_X11_init 7 rfl) 16 rfl ?_
  refine d_cJ C (k_X0_init_3 hG hov hz) mw_X0_init ln_RX11_16 mii_X0_init ⟨by decide, by decide, by decide, by decide⟩ rfl hag (lC_sub (by decide)) (L := [some (.inr 0), some (.inr 1)]) (st := [.inr 3]) rfl rfl (svC (by decide)) (svD (by decide)) (Nat.le_of_ble_eq_true rfl) (dkAt dk_X11_init 8 rfl) 19 rfl (cs1 := 9) (sl1 := 1527) rfl rfl (fun _ ad hag => ?_)
  change G (gc Γ KT ad (lC 10)) X (mm7 M) 9 1527 [some (.ref (ad 0)), some (.ref (ad 1))] [.ref (ad 3)] 19
  refine x_astore_n (C.gc KR.tt ad (lC 10)) (L1 := [some (.ref (ad 0)), some (.ref (ad 1)), some (.ref (ad 3))]) (dkAt dk_X11_init 9 rfl) 20 rfl rfl (by decide) rfl ?_
  refine d_newC C (L := [some (.inr 0), some (.inr 1), some (.inr 3)]) (st := []) (by decide) rfl rc7 uw7 tyX7_ok kd_7 kl_RX11_17 ki_7 kn_7 ((zr7 hz).mono (by decide)) ⟨by decide, by decide⟩ hag (by decide) rfl rfl (svC (by decide)) (svD (by decide)) (dkAt dk_X11_init 10 rfl) 23 rfl (cs1 := 10) (sl1 := 1536) rfl rfl (fun ad hag => ?_)
  change G (gc Γ KT ad (lC 11)) X (mm7 M) 10 1536 [some (.ref (ad 0)), some (.ref (ad 1)), some (.ref (ad 3))] [.ref (ad 10)] 23
  refine x_dup (C.gc KR.tt ad (lC 11)) rfl (dkAt dk_X11_init 11 rfl) 24 rfl ?_
  refine d_cJ C (k_X7_init_10 hG hov hz) mw_X7_init ln_RX11_19 mii_X7_init ⟨by decide, by decide, by decide, by decide⟩ rfl hag (lC_sub (by decide)) (L := [some (.inr 0), some (.inr 1), some (.inr 3)]) (st := [.inr 10]) rfl rfl (svC (by decide)) (svD (by decide)) (Nat.le_of_ble_eq_true rfl) (dkAt dk_X11_init 12 rfl) 27 rfl (cs1 := 15) (sl1 := 1574) rfl rfl (fun _ ad hag => ?_)
  change G (gc Γ KT ad (lC 16)) X (mm13 M) 15 1574 [some (.ref (ad 0)), some (.ref (ad 1)), some (.ref (ad 3))] [.ref (ad 10)] 27
  refine x_astore_n (C.gc KR.tt ad (lC 16)) (L1 := [some (.ref (ad 0)), some (.ref (ad 1)), some (.ref (ad 3)), some (.ref (ad 10))]) (dkAt dk_X11_init 13 rfl) 28 rfl rfl (by decide) rfl ?_
  refine d_newC C (L := [some (.inr 0), some (.inr 1), some (.inr 3), some (.inr 10)]) (st := []) (by decide) rfl rc1 uw1 tyX1_ok kd_1 kl_RX11_20 ki_1 kn_1 ((zr13 hz).mono (by decide)) ⟨by decide, by decide⟩ hag (by decide) rfl rfl (svC (by decide)) (svD (by decide)) (dkAt dk_X11_init 14 rfl) 31 rfl (cs1 := 16) (sl1 := 1581) rfl rfl (fun ad hag => ?_)
  change G (gc Γ KT ad (lC 17)) X (mm13 M) 16 1581 [some (.ref (ad 0)), some (.ref (ad 1)), some (.ref (ad 3)), some (.ref (ad 10))] [.ref (ad 16)] 31
  refine x_dup (C.gc KR.tt ad (lC 17)) rfl (dkAt dk_X11_init 15 rfl) 32 rfl ?_
  refine x_aload_n (C.gc KR.tt ad (lC 17)) rfl rfl (dkAt dk_X11_init 16 rfl) 33 rfl ?_
  refine d_cI C (k_X1_init_16 hG hov hz) mw_X1_init ln_RX11_22 mii_X1_init ⟨by decide, by decide, by decide, by decide⟩ rfl hag (lC_sub (by decide)) (L := [some (.inr 0), some (.inr 1), some (.inr 3), some (.inr 10)]) (st := [.inr 16]) rfl rfl (svC (by decide)) (svD (by decide)) (Nat.le_of_ble_eq_true rfl) (dkAt dk_X11_init 17 rfl) 36 rfl (cs1 := 20) (sl1 := 1725) rfl rfl (fun _ ad hag => ?_)
  change G (gc Γ KT ad (lC 21)) X (mm18 M) 20 1725 [some (.ref (ad 0)), some (.ref (ad 1)), some (.ref (ad 3)), some (.ref (ad 10))] [.ref (ad 16)] 36
  refine x_astore (C.gc KR.tt ad (lC 21)) (L1 := [some (.ref (ad 0)), some (.ref (ad 1)), some (.ref (ad 3)), some (.ref (ad 10)), some (.ref (ad 16))]) (dkAt dk_X11_init 18 rfl) 38 rfl (by decide) rfl ?_
  refine x_aload_n (C.gc KR.tt ad (lC 21)) rfl rfl (dkAt dk_X11_init 19 rfl) 39 rfl ?_
  refine x_aload_n (C.gc KR.tt ad (lC 21)) rfl rfl (dkAt dk_X11_init 20 rfl) 40 rfl ?_
  refine x_putFR (C.gc KR.tt ad (lC 21)) hI (kk := some) (rM := (mm19 M)) (fun _ _ => trivial) pkf_RX11_25 ⟨_, rfl⟩ (oc (by decide) (by decide) rfl) (dkAt dk_X11_init 21 rfl) 43 rfl rfl (fun M1 hM => ?_)
  cases hM
  refine x_aload_n (C.gc KR.tt ad (lC 21)) rfl rfl (dkAt dk_X11_init 22 rfl) 44 rfl ?_
  refine d_newC C (L := [some (.inr 0), some (.inr 1), some (.inr 3), some (.inr 10), some (.inr 16)]) (st := [.inr 0]) (by decide) rfl rc4 uw4 tyX4_ok kd_4 kl_RX11_29 ki_4 kn_4 ((zr19 hz).mono (by decide)) ⟨by decide, by decide⟩ hag (by decide) rfl rfl (svC (by decide)) (svD (by decide)) (dkAt dk_X11_init 23 rfl) 47 rfl (cs1 := 21) (sl1 := 1732) rfl rfl (fun ad hag => ?_)
  change G (gc Γ KT ad (lC 22)) X (mm19 M) 21 1732 [some (.ref (ad 0)), some (.ref (ad 1)), some (.ref (ad 3)), some (.ref (ad 10)), some (.ref (ad 16))] [.ref (ad 21), .ref (ad 0)] 47
  refine x_dup (C.gc KR.tt ad (lC 22)) rfl (dkAt dk_X11_init 24 rfl) 48 rfl ?_
  refine x_aload_n (C.gc KR.tt ad (lC 22)) rfl rfl (dkAt dk_X11_init 25 rfl) 49 rfl ?_
  refine d_cI C (k_X4_init_21 hG hov hz) mw_X4_init ln_RX11_31 mii_X4_init ⟨by decide, by decide, by decide, by decide⟩ rfl hag (lC_sub (by decide)) (L := [some (.inr 0), some (.inr 1), some (.inr 3), some (.inr 10), some (.inr 16)]) (st := [.inr 21, .inr 0]) rfl rfl (svC (by decide)) (svD (by decide)) (Nat.le_of_ble_eq_true rfl) (dkAt dk_X11_init 26 rfl) 52 rfl (cs1 := 34) (sl1 := 2099) rfl rfl (fun _ ad hag => ?_)
  change G (gc Γ KT ad (lC 35)) X (mm35 M) 34 2099 [some (.ref (ad 0)), some (.ref (ad 1)), some (.ref (ad 3)), some (.ref (ad 10)), some (.ref (ad 16))] [.ref (ad 21), .ref (ad 0)] 52
  refine x_putFR (C.gc KR.tt ad (lC 35)) hI (kk := some) (rM := (mm36 M)) (fun _ _ => trivial) pkf_RX11_34 ⟨_, rfl⟩ (oc (by decide) (by decide) rfl) (dkAt dk_X11_init 27 rfl) 55 rfl rfl (fun M1 hM => ?_)
  cases hM
  refine x_aload_n (C.gc KR.tt ad (lC 35)) rfl rfl (dkAt dk_X11_init 28 rfl) 56 rfl ?_
  refine x_aload_n (C.gc KR.tt ad (lC 35)) rfl rfl (dkAt dk_X11_init 29 rfl) 57 rfl ?_
  refine x_putFR (C.gc KR.tt ad (lC 35)) hI (kk := some) (rM := (mm37 M)) (fun _ _ => trivial) pkf_RX11_38 ⟨_, rfl⟩ (oc (by decide) (by decide) rfl) (dkAt dk_X11_init 30 rfl) 60 rfl rfl (fun M1 hM => ?_)
  cases hM
  refine x_aload_n (C.gc KR.tt ad (lC 35)) rfl rfl (dkAt dk_X11_init 31 rfl) 61 rfl ?_
  refine x_aload_n (C.gc KR.tt ad (lC 35)) rfl rfl (dkAt dk_X11_init 32 rfl) 62 rfl ?_
  refine x_putFR (C.gc KR.tt ad (lC 35)) hI (kk := some) (rM := (mm38 M)) (fun _ _ => trivial) pkf_RX11_42 ⟨_, rfl⟩ (oc (by decide) (by decide) rfl) (dkAt dk_X11_init 33 rfl) 65 rfl rfl (fun M1 hM => ?_)
  cases hM
  refine x_aload_n (C.gc KR.tt ad (lC 35)) rfl rfl (dkAt dk_X11_init 34 rfl) 66 rfl ?_
  refine d_newC C (L := [some (.inr 0), some (.inr 1), some (.inr 3), some (.inr 10), some (.inr 16)]) (st := [.inr 0]) (by decide) rfl rc3 uw3 tyX3_ok kd_3 kl_RX11_46 ki_3 kn_3 ((zr38 hz).mono (by decide)) ⟨by decide, by decide⟩ hag (by decide) rfl rfl (svC (by decide)) (svD (by decide)) (dkAt dk_X11_init 35 rfl) 69 rfl (cs1 := 35) (sl1 := 2103) rfl rfl (fun ad hag => ?_)
  change G (gc Γ KT ad (lC 36)) X (mm38 M) 35 2103 [some (.ref (ad 0)), some (.ref (ad 1)), some (.ref (ad 3)), some (.ref (ad 10)), some (.ref (ad 16))] [.ref (ad 35), .ref (ad 0)] 69
  refine x_dup (C.gc KR.tt ad (lC 36)) rfl (dkAt dk_X11_init 36 rfl) 70 rfl ?_
  refine d_cI C (k_X3_init_35 hG hov hz) mw_X3_init ln_RX11_48 mii_X3_init ⟨by decide, by decide, by decide, by decide⟩ rfl hag (lC_sub (by decide)) (L := [some (.inr 0), some (.inr 1), some (.inr 3), some (.inr 10), some (.inr 16)]) (st := [.inr 35, .inr 0]) rfl rfl (svC (by decide)) (svD (by decide)) (Nat.le_of_ble_eq_true rfl) (dkAt dk_X11_init 37 rfl) 73 rfl (cs1 := 91) (sl1 := 2535) rfl rfl (fun _ ad hag => ?_)
  change G (gc Γ KT ad (lC 92)) X (mm103 M) 91 2535 [some (.ref (ad 0)), some (.ref (ad 1)), some (.ref (ad 3)), some (.ref (ad 10)), some (.ref (ad 16))] [.ref (ad 35), .ref (ad 0)] 73
  refine x_putFR (C.gc KR.tt ad (lC 92)) hI (kk := some) (rM := (mm104 M)) (fun _ _ => trivial) pkf_RX11_49 ⟨_, rfl⟩ (oc (by decide) (by decide) rfl) (dkAt dk_X11_init 38 rfl) 76 rfl rfl (fun M1 hM => ?_)
  cases hM
  refine x_aload_n (C.gc KR.tt ad (lC 92)) rfl rfl (dkAt dk_X11_init 39 rfl) 77 rfl ?_
  refine x_aload (C.gc KR.tt ad (lC 92)) rfl (dkAt dk_X11_init 40 rfl) 79 rfl ?_
  refine x_putFR (C.gc KR.tt ad (lC 92)) hI (kk := some) (rM := (mm105 M)) (fun _ _ => trivial) pkf_RX11_53 ⟨_, rfl⟩ (oc (by decide) (by decide) rfl) (dkAt dk_X11_init 41 rfl) 82 rfl rfl (fun M1 hM => ?_)
  cases hM
  refine x_aload_n (C.gc KR.tt ad (lC 92)) rfl rfl (dkAt dk_X11_init 42 rfl) 83 rfl ?_
  refine d_newC C (L := [some (.inr 0), some (.inr 1), some (.inr 3), some (.inr 10), some (.inr 16)]) (st := [.inr 0]) (by decide) rfl rc8 uw8 tyX8_ok kd_8 kl_RX11_57 ki_8 kn_8 ((zr105 hz).mono (by decide)) ⟨by decide, by decide⟩ hag (by decide) rfl rfl (svC (by decide)) (svD (by decide)) (dkAt dk_X11_init 43 rfl) 86 rfl (cs1 := 92) (sl1 := 2539) rfl rfl (fun ad hag => ?_)
  change G (gc Γ KT ad (lC 93)) X (mm105 M) 92 2539 [some (.ref (ad 0)), some (.ref (ad 1)), some (.ref (ad 3)), some (.ref (ad 10)), some (.ref (ad 16))] [.ref (ad 92), .ref (ad 0)] 86
  refine x_dup (C.gc KR.tt ad (lC 93)) rfl (dkAt dk_X11_init 44 rfl) 87 rfl ?_
  refine x_aload_n (C.gc KR.tt ad (lC 93)) rfl rfl (dkAt dk_X11_init 45 rfl) 88 rfl ?_
  refine d_cI C (k_X8_init_92 hG hov hz) mw_X8_init ln_RX11_59 mii_X8_init ⟨by decide, by decide, by decide, by decide⟩ rfl hag (lC_sub (by decide)) (L := [some (.inr 0), some (.inr 1), some (.inr 3), some (.inr 10), some (.inr 16)]) (st := [.inr 92, .inr 0]) rfl rfl (svC (by decide)) (svD (by decide)) (Nat.le_of_ble_eq_true rfl) (dkAt dk_X11_init 46 rfl) 91 rfl (cs1 := 95) (sl1 := 8527) rfl rfl (fun _ ad hag => ?_)
  change G (gc Γ KT ad (lC 96)) X (mm109 M) 95 8527 [some (.ref (ad 0)), some (.ref (ad 1)), some (.ref (ad 3)), some (.ref (ad 10)), some (.ref (ad 16))] [.ref (ad 92), .ref (ad 0)] 91
  refine x_putFR (C.gc KR.tt ad (lC 96)) hI (kk := some) (rM := (mm110 M)) (fun _ _ => trivial) pkf_RX11_60 ⟨_, rfl⟩ (oc (by decide) (by decide) rfl) (dkAt dk_X11_init 47 rfl) 94 rfl rfl (fun M1 hM => ?_)
  cases hM
  refine x_aload_n (C.gc KR.tt ad (lC 96)) rfl rfl (dkAt dk_X11_init 48 rfl) 95 rfl ?_
  refine d_newC C (L := [some (.inr 0), some (.inr 1), some (.inr 3), some (.inr 10), some (.inr 16)]) (st := [.inr 0]) (by decide) rfl rc5 uw5 tyX5_ok kd_5 kl_RX11_64 ki_5 kn_5 ((zr110 hz).mono (by decide)) ⟨by decide, by decide⟩ hag (by decide) rfl rfl (svC (by decide)) (svD (by decide)) (dkAt dk_X11_init 49 rfl) 98 rfl (cs1 := 96) (sl1 := 8538) rfl rfl (fun ad hag => ?_)
  change G (gc Γ KT ad (lC 97)) X (mm110 M) 96 8538 [some (.ref (ad 0)), some (.ref (ad 1)), some (.ref (ad 3)), some (.ref (ad 10)), some (.ref (ad 16))] [.ref (ad 96), .ref (ad 0)] 98
  refine x_dup (C.gc KR.tt ad (lC 97)) rfl (dkAt dk_X11_init 50 rfl) 99 rfl ?_
  refine x_aload_n (C.gc KR.tt ad (lC 97)) rfl rfl (dkAt dk_X11_init 51 rfl) 100 rfl ?_
  refine x_aload_n (C.gc KR.tt ad (lC 97)) rfl rfl (dkAt dk_X11_init 52 rfl) 101 rfl ?_
  refine x_aload (C.gc KR.tt ad (lC 97)) rfl (dkAt dk_X11_init 53 rfl) 103 rfl ?_
  refine d_cI C (k_X5_init_96 hG hov hz) mw_X5_init ln_RX11_66 mii_X5_init ⟨by decide, by decide, by decide, by decide⟩ rfl hag (lC_sub (by decide)) (L := [some (.inr 0), some (.inr 1), some (.inr 3), some (.inr 10), some (.inr 16)]) (st := [.inr 96, .inr 0]) rfl rfl (svC (by decide)) (svD (by decide)) (Nat.le_of_ble_eq_true rfl) (dkAt dk_X11_init 54 rfl) 106 rfl (cs1 := 101) (sl1 := 11484) rfl rfl (fun _ ad hag => ?_)
  change G (gc Γ KT ad (lC 102)) X (mm120 M) 101 11484 [some (.ref (ad 0)), some (.ref (ad 1)), some (.ref (ad 3)), some (.ref (ad 10)), some (.ref (ad 16))] [.ref (ad 96), .ref (ad 0)] 106
  refine x_putFR (C.gc KR.tt ad (lC 102)) hI (kk := some) (rM := (mm121 M)) (fun _ _ => trivial) pkf_RX11_69 ⟨_, rfl⟩ (oc (by decide) (by decide) rfl) (dkAt dk_X11_init 55 rfl) 109 rfl rfl (fun M1 hM => ?_)
  cases hM
  refine x_aload_n (C.gc KR.tt ad (lC 102)) rfl rfl (dkAt dk_X11_init 56 rfl) 110 rfl ?_
  refine d_newC C (L := [some (.inr 0), some (.inr 1), some (.inr 3), some (.inr 10), some (.inr 16)]) (st := [.inr 0]) (by decide) rfl rc9 uw9 tyX9_ok kd_9 kl_RX11_73 ki_9 kn_9 ((zr121 hz).mono (by decide)) ⟨by decide, by decide⟩ hag (by decide) rfl rfl (svC (by decide)) (svD (by decide)) (dkAt dk_X11_init 57 rfl) 113 rfl (cs1 := 102) (sl1 := 11487) rfl rfl (fun ad hag => ?_)
  change G (gc Γ KT ad (lC 103)) X (mm121 M) 102 11487 [some (.ref (ad 0)), some (.ref (ad 1)), some (.ref (ad 3)), some (.ref (ad 10)), some (.ref (ad 16))] [.ref (ad 102), .ref (ad 0)] 113
  refine x_dup (C.gc KR.tt ad (lC 103)) rfl (dkAt dk_X11_init 58 rfl) 114 rfl ?_
  refine x_aload_n (C.gc KR.tt ad (lC 103)) rfl rfl (dkAt dk_X11_init 59 rfl) 115 rfl ?_
  refine x_aload_n (C.gc KR.tt ad (lC 103)) rfl rfl (dkAt dk_X11_init 60 rfl) 116 rfl ?_
  refine d_cI C (k_X9_init_102 hG hov hz) mw_X9_init ln_RX11_75 mii_X9_init ⟨by decide, by decide, by decide, by decide⟩ rfl hag (lC_sub (by decide)) (L := [some (.inr 0), some (.inr 1), some (.inr 3), some (.inr 10), some (.inr 16)]) (st := [.inr 102, .inr 0]) rfl rfl (svC (by decide)) (svD (by decide)) (Nat.le_of_ble_eq_true rfl) (dkAt dk_X11_init 61 rfl) 119 rfl (cs1 := 103) (sl1 := 11523) rfl rfl (fun _ ad hag => ?_)
  change G (gc Γ KT ad (lC 104)) X (mm124 M) 103 11523 [some (.ref (ad 0)), some (.ref (ad 1)), some (.ref (ad 3)), some (.ref (ad 10)), some (.ref (ad 16))] [.ref (ad 102), .ref (ad 0)] 119
  refine x_putFR (C.gc KR.tt ad (lC 104)) hI (kk := some) (rM := (mm125 M)) (fun _ _ => trivial) pkf_RX11_78 ⟨_, rfl⟩ (oc (by decide) (by decide) rfl) (dkAt dk_X11_init 62 rfl) 122 rfl rfl (fun M1 hM => ?_)
  cases hM
  refine x_aload_n (C.gc KR.tt ad (lC 104)) rfl rfl (dkAt dk_X11_init 63 rfl) 123 rfl ?_
  refine d_newC C (L := [some (.inr 0), some (.inr 1), some (.inr 3), some (.inr 10), some (.inr 16)]) (st := [.inr 0]) (by decide) rfl rc10 uw10 tyX10_ok kd_10 kl_RX11_82 ki_10 kn_10 ((zr125 hz).mono (by decide)) ⟨by decide, by decide⟩ hag (by decide) rfl rfl (svC (by decide)) (svD (by decide)) (dkAt dk_X11_init 64 rfl) 126 rfl (cs1 := 104) (sl1 := 11527) rfl rfl (fun ad hag => ?_)
  change G (gc Γ KT ad (lC 105)) X (mm125 M) 104 11527 [some (.ref (ad 0)), some (.ref (ad 1)), some (.ref (ad 3)), some (.ref (ad 10)), some (.ref (ad 16))] [.ref (ad 104), .ref (ad 0)] 126
  refine x_dup (C.gc KR.tt ad (lC 105)) rfl (dkAt dk_X11_init 65 rfl) 127 rfl ?_
  refine x_aload_n (C.gc KR.tt ad (lC 105)) rfl rfl (dkAt dk_X11_init 66 rfl) 128 rfl ?_
  refine d_cI C (k_X10_init_104 hG hov hz) mw_X10_init ln_RX11_84 mii_X10_init ⟨by decide, by decide, by decide, by decide⟩ rfl hag (lC_sub (by decide)) (L := [some (.inr 0), some (.inr 1), some (.inr 3), some (.inr 10), some (.inr 16)]) (st := [.inr 104, .inr 0]) rfl rfl (svC (by decide)) (svD (by decide)) (Nat.le_of_ble_eq_true rfl) (dkAt dk_X11_init 67 rfl) 131 rfl (cs1 := 104) (sl1 := 11527) rfl rfl (fun _ ad hag => ?_)
  change G (gc Γ KT ad (lC 105)) X (mm126 M) 104 11527 [some (.ref (ad 0)), some (.ref (ad 1)), some (.ref (ad 3)), some (.ref (ad 10)), some (.ref (ad 16))] [.ref (ad 104), .ref (ad 0)] 131
  refine x_putFR (C.gc KR.tt ad (lC 105)) hI (kk := some) (rM := (mm127 M)) (fun _ _ => trivial) pkf_RX11_85 ⟨_, rfl⟩ (oc (by decide) (by decide) rfl) (dkAt dk_X11_init 68 rfl) 134 rfl rfl (fun M1 hM => ?_)
  cases hM
  refine x_aload_n (C.gc KR.tt ad (lC 105)) rfl rfl (dkAt dk_X11_init 69 rfl) 135 rfl ?_
  refine d_newC C (L := [some (.inr 0), some (.inr 1), some (.inr 3), some (.inr 10), some (.inr 16)]) (st := [.inr 0]) (by decide) rfl rc6 uw6 tyX6_ok kd_6 kl_RX11_89 ki_6 kn_6 ((zr127 hz).mono (by decide)) ⟨by decide, by decide⟩ hag (by decide) rfl rfl (svC (by decide)) (svD (by decide)) (dkAt dk_X11_init 70 rfl) 138 rfl (cs1 := 105) (sl1 := 11529) rfl rfl (fun ad hag => ?_)
  change G (gc Γ KT ad (lC 106)) X (mm127 M) 105 11529 [some (.ref (ad 0)), some (.ref (ad 1)), some (.ref (ad 3)), some (.ref (ad 10)), some (.ref (ad 16))] [.ref (ad 105), .ref (ad 0)] 138
  refine x_dup (C.gc KR.tt ad (lC 106)) rfl (dkAt dk_X11_init 71 rfl) 139 rfl ?_
  refine d_cJ C (k_X6_init_105 hG hov hz) mw_X6_init ln_RX11_91 mii_X6_init ⟨by decide, by decide, by decide, by decide⟩ rfl hag (lC_sub (by decide)) (L := [some (.inr 0), some (.inr 1), some (.inr 3), some (.inr 10), some (.inr 16)]) (st := [.inr 105, .inr 0]) rfl rfl (svC (by decide)) (svD (by decide)) (Nat.le_of_ble_eq_true rfl) (dkAt dk_X11_init 72 rfl) 142 rfl (cs1 := 106) (sl1 := 11643) rfl rfl (fun _ ad hag => ?_)
  change G (gc Γ KT ad (lC 107)) X (mm128 M) 106 11643 [some (.ref (ad 0)), some (.ref (ad 1)), some (.ref (ad 3)), some (.ref (ad 10)), some (.ref (ad 16))] [.ref (ad 105), .ref (ad 0)] 142
  refine x_putFR (C.gc KR.tt ad (lC 107)) hI (kk := some) (rM := (mm129 M)) (fun _ _ => trivial) pkf_RX11_92 ⟨_, rfl⟩ (oc (by decide) (by decide) rfl) (dkAt dk_X11_init 73 rfl) 145 rfl rfl (fun M1 hM => ?_)
  cases hM
  refine x_aload_n (C.gc KR.tt ad (lC 107)) rfl rfl (dkAt dk_X11_init 74 rfl) 146 rfl ?_
  refine x_bipush (C.gc KR.tt ad (lC 107)) (v := (18 : Int32)) (by decide) (dkAt dk_X11_init 75 rfl) 148 rfl ?_
  refine d_newaC C (ty := .int) (L := [some (.inr 0), some (.inr 1), some (.inr 3), some (.inr 10), some (.inr 16)]) (st := [.inr 0]) (by decide) rfl (by decide) rfl ka_int rfl (fun _ => rfl) ⟨by decide, by decide, by decide⟩ ((zr129 hz).mono (by decide)) ⟨by decide, by decide⟩ hag (by decide) rfl rfl (svC (by decide)) (svD (by decide)) (dkAt dk_X11_init 76 rfl) 150 rfl (cs1 := 107) (sl1 := 11661) rfl rfl (fun ad hag => ?_)
  change G (gc Γ KT ad (lC 108)) X (mm129 M) 107 11661 [some (.ref (ad 0)), some (.ref (ad 1)), some (.ref (ad 3)), some (.ref (ad 10)), some (.ref (ad 16))] [.ref (ad 107), .ref (ad 0)] 150
  refine x_putFR (C.gc KR.tt ad (lC 108)) hI (kk := some) (rM := (mm130 M)) (fun _ _ => trivial) pkf_RX11_96 ⟨_, rfl⟩ (oc (by decide) (by decide) rfl) (dkAt dk_X11_init 77 rfl) 153 rfl rfl (fun M1 hM => ?_)
  cases hM
  exact d_vret (K9 := KT) C E hag (fun h => h) (by decide) (by decide) (dkAt dk_X11_init 78 rfl)
def mmC (M : Mem) : Mem := (mm130 M)
