section Thr2
variable {Γ : WC} {X : MX} {M M1 : Mem} {cs sl mc ms : Nat} {L : List (Option Value)} {st : List Value} {pc : Nat} {cc : ByteArray} {nL : Nat} {own : String} {ret : Option FieldType} {R0 : Room} {β : Type}
/-- 'throw new E("text")' -/
theorem t_throwW {α : Type} {tv : α → Option Value} {rM : Except Nat α × Mem} {n9 : Nat} (C : CX Γ X cc nL own ret R0) (E : EndT Γ X tv rM mc ms) {text : String} {ik is ic sa : Nat} (hf : some (.error n9, M) = some rM) (hc : cs + 1 ≤ mc) (hs : sl + 6 ≤ ms) (hR : 6 ≤ R0.frames ∧ 90 ≤ R0.locals ∧ mc ≤ R0.cells ∧ ms ≤ R0.slots) (hw : (st.map fun v => v.category).sum ≤ 8)
    (hcls : Bundle.fit (xN n9) = true) (hk : Gd (.classLink own ik (xN n9))) (hini : Gd (.initialized (xN n9))) (hstr : vk_R own is text sa (wU Γ)) (hat : ∀ w ∈ vx_atS own ic (xN n9) ["java/lang/RuntimeException", "java/lang/Exception"], Gd w) (hgd : ∀ w ∈ Cond.classLink own ik (xN n9) :: Cond.initialized (xN n9) :: vx_atS own ic (xN n9) ["java/lang/RuntimeException", "java/lang/Exception"], vx_ot w = true)
    (d0 : decode cc pc = .ok (.new ik, 3)) (d3 : decode cc (pc + 3) = .ok (.dup, 1)) (d4 : decode cc (pc + 4) = .ok (.ldc_w is, 3)) (d6 : decode cc (pc + 7) = .ok (.invokespecial ic, 3)) (d9 : decode cc (pc + 10) = .ok (.athrow, 1)) : G Γ X M cs sl L st pc := by
  obtain ⟨p, e, R, s, m, args, below, meth, c, Q⟩ := X
  obtain ⟨hx, hb, hml, hown, hts, hW, hlk, hret, rfl, hK, hSs, hG⟩ := C
  cases hf
  intro H locs ls a1 a2 a3 a4 a5
  rw [show Q = _ from E.1]
  have hno := E.2
  intro T hT X9
  have hsz : s.heap.size ≤ H.size := by
    have h2 := X9.same.2.1
    rw [← hT]
    exact h2
  have hS9 : va_S (fAg Γ) s.heap H locs := ⟨hsz, fun q h1 h2 => by
    have hq : q < (wU Γ).heap.size := Nat.lt_of_not_le h2
    rw [a4.2.1 q hq h2, hSs.2.1 q hq h2], a4.2.2⟩
  have hU := (hG.2.2.2.1.kept hSs.2.1).moved hW.alike
  have hN := (hG.2.2.2.2.1.kept hSs.2.1).moved hW.alike
  exact vx_throwSW hx hb hG.2.2.1 hown hcls (by decide) (hts _ hk) (hts _ hini) (vk_R.warm hW hstr) (fun w h => hts w (hat w h)) hgd hU hN hS9 (by rw [a5.1]) d0 d3 d4 d6 d9 (fun x h => absurd (hno x h) id) (by show 2 + 3 < _; omega) (by show _ + (13 * (2 + 1) + 43) ≤ _; omega) (by omega) (by omega) hlk
    (fun t hv h1 h2 => ⟨_, rfl, rfl, a1, ⟨Nat.le_trans a4.1 h1, fun q h3 h4 => by rw [h2 q (Nat.lt_of_lt_of_le h3 a4.1)]; exact a4.2.1 q h3 h4, fun _ z => nomatch z⟩, a2.kept (fun k q hk => h2 q.1 (a2 k q hk).lt), a3⟩) a4.2.2 hc hs T hT X9
end Thr2
/-! the JDK's text methods over the parser's words -/
theorem ss9 {Γ : WC} {p : Program} {l : Launch} {e : Env} {R : Room} {s : State} {m : MethodId} {args : Array Value} {below : List Frame} {meth : Method} {c : Code} {T : State} {H : Heap} {locs : List Loc} {cs sl : Nat} (X9 : Stand p l e R s m args below meth c T locs cs sl) (hT : T.heap = H) (a4 : va_S (fAg Γ) (wU Γ).heap H locs) (hSs : va_S (fAg Γ) (wU Γ).heap s.heap []) : va_S (fAg Γ) s.heap H locs := by
  have hsz : s.heap.size ≤ H.size := by
    have h2 := X9.same.2.1
    rw [← hT]
    exact h2
  exact ⟨hsz, fun q h1 h2 => by
    have hq : q < (wU Γ).heap.size := Nat.lt_of_not_le h2
    rw [a4.2.1 q hq h2, hSs.2.1 q hq h2], a4.2.2⟩
theorem strAt {Γ : WC} (hN : HT Γ) {s : State} (hW : (wU Γ).WarmedH s.vm) (hSs : va_S (fAg Γ) (wU Γ).heap s.heap []) : vk_S 21 (WL.map List.length) (WL.map (fun l => l.map nI)) (wst Γ) (wsv Γ) (fAg Γ) s s.heap := (hN.2.2.1.kept hSs.2.1).moved hW.alike
theorem wl_len : ∀ t, t < 21 → (WL.map List.length).getD t 0 = (WL.getD t []).length ∧ (WL.getD t []).length < 1000 := by decide
theorem wl_at : ∀ t, t < 21 → ∀ j, j < (WL.getD t []).length → ((WL.map (fun l => l.map nI)).getD t []).getD j 0 = nI ((WL.getD t []).getD j 0) ∧ (WL.getD t []).getD j 0 < 128 := by decide +kernel
theorem ch_i2c : ∀ c, c < 128 → ((nI c &&& 255).toUInt32 % 65536).toInt32 = nI c ∧ narrow .char (.int (nI c)) = .int (nI c) := by decide +kernel
theorem mi_recv {Γ : WC} (hN : HT Γ) {t : Nat} (ht : t < 21) {s : State} {H : Heap} {locs : List Loc} (hW : (wU Γ).WarmedH s.vm) (hSs : va_S (fAg Γ) (wU Γ).heap s.heap []) (hS : va_S (fAg Γ) (wU Γ).heap H locs) : ∃ cell : Cell, H[wst Γ t]? = some cell ∧ cell.vm.isStatics = false ∧ s.vm.findClass "java/lang/String" = some cell.cls := by
  have h0 : va_O "java/lang/String" (wst Γ t) (fAg Γ) (wU Γ) (wU Γ).heap := (hN.2.2.1.1 t ht).1
  obtain ⟨cell, h1, h2, h3, h4⟩ := (h0.kept hS.2.1).moved hW.alike
  exact ⟨cell, h1, h2, h3⟩
section Str
variable {Γ : WC} {X : MX} {M : Mem} {cs sl mc ms : Nat} {L : List (Option Value)} {st : List Value} {pc : Nat} {cc : ByteArray} {nL : Nat} {own : String} {ret : Option FieldType} {R0 : Room} {β : Type} {rM : β} {idx : Nat}
theorem x_gfV (C : CX Γ X cc nL own ret R0) (hN : HT Γ) {t : Nat} (ht : t < 21) (lk : Gd (.fieldLink own idx "java/lang/String" "value" "[B")) (d : decode cc pc = .ok (.getfield idx, 3)) (q : Nat) (hq : pc + 3 = q) (K : G Γ X M cs sl L (.ref (wsv Γ t) :: st) q) : G Γ X M cs sl L (.ref (wst Γ t) :: st) pc := by
  subst hq
  obtain ⟨p, e, R, s, m, args, below, meth, c, Q⟩ := X
  obtain ⟨hx, hb, hml, hown, hts, hW, hlk, hret, rfl, hK, hSs, hG⟩ := C
  intro H locs ls a1 a2 a3 a4 a5 T hT X9
  exact vk_getf hx hb ((strAt hN hW hSs).1 t ht).2.2.1 (ss9 X9 hT a4 hSs) hown (hts _ lk) (fun _ h => h) d (K H locs ls a1 a2 a3 a4 a5) T hT X9
theorem x_gfC (C : CX Γ X cc nL own ret R0) (hN : HT Γ) {t : Nat} (ht : t < 21) (lk : Gd (.fieldLink own idx "java/lang/String" "coder" "B")) (d : decode cc pc = .ok (.getfield idx, 3)) (q : Nat) (hq : pc + 3 = q) (K : G Γ X M cs sl L (.int 0 :: st) q) : G Γ X M cs sl L (.ref (wst Γ t) :: st) pc := by
  subst hq
  obtain ⟨p, e, R, s, m, args, below, meth, c, Q⟩ := X
  obtain ⟨hx, hb, hml, hown, hts, hW, hlk, hret, rfl, hK, hSs, hG⟩ := C
  intro H locs ls a1 a2 a3 a4 a5 T hT X9
  exact vk_getf hx hb ((strAt hN hW hSs).1 t ht).2.1 (ss9 X9 hT a4 hSs) hown (hts _ lk) (fun _ h => h) d (K H locs ls a1 a2 a3 a4 a5) T hT X9
theorem x_gsC (C : CX Γ X cc nL own ret R0) (hN : HT Γ) (lk : Gd (.fieldLink own idx "java/lang/String" "COMPACT_STRINGS" "Z")) (d : decode cc pc = .ok (.getstatic idx, 3)) (q : Nat) (hq : pc + 3 = q) (K : G Γ X M cs sl L (.int 1 :: st) q) : G Γ X M cs sl L st pc := by
  subst hq
  obtain ⟨p, e, R, s, m, args, below, meth, c, Q⟩ := X
  obtain ⟨hx, hb, hml, hown, hts, hW, hlk, hret, rfl, hK, hSs, hG⟩ := C
  intro H locs ls a1 a2 a3 a4 a5 T hT X9
  exact va_gets hx hb ((hN.2.2.2.1.kept hSs.2.1).moved hW.alike) (ss9 X9 hT a4 hSs) hown (hts _ lk) (fun _ h => h) d (K H locs ls a1 a2 a3 a4 a5) T hT X9
theorem x_gsF (C : CX Γ X cc nL own ret R0) (hN : HT Γ) (lk : Gd (.fieldLink own idx "jdk/internal/util/Preconditions" "SIOOBE_FORMATTER" "Ljava/util/function/BiFunction;")) (d : decode cc pc = .ok (.getstatic idx, 3)) (q : Nat) (hq : pc + 3 = q) (K : ∀ v : Value, v.category = 1 → G Γ X M cs sl L (v :: st) q) : G Γ X M cs sl L st pc := by
  subst hq
  obtain ⟨p, e, R, s, m, args, below, meth, c, Q⟩ := X
  obtain ⟨hx, hb, hml, hown, hts, hW, hlk, hret, rfl, hK, hSs, hG⟩ := C
  intro H locs ls a1 a2 a3 a4 a5 T hT X9
  rcases (hN.2.2.2.2.1.kept hSs.2.1).moved hW.alike with hz | ⟨t9, hz⟩
  · exact va_gets hx hb hz (ss9 X9 hT a4 hSs) hown (hts _ lk) (fun _ h => h) d (K _ rfl H locs ls a1 a2 a3 a4 a5) T hT X9
  · exact va_gets hx hb hz (ss9 X9 hT a4 hSs) hown (hts _ lk) (fun _ h => h) d (K _ rfl H locs ls a1 a2 a3 a4 a5) T hT X9
theorem x_sal (C : CX Γ X cc nL own ret R0) (hN : HT Γ) {t : Nat} (ht : t < 21) (d : decode cc pc = .ok (.arraylength, 1)) (q : Nat) (hq : pc + 1 = q) (K : G Γ X M cs sl L (.int (slen t) :: st) q) : G Γ X M cs sl L (.ref (wsv Γ t) :: st) pc := by
  subst hq
  obtain ⟨p, e, R, s, m, args, below, meth, c, Q⟩ := X
  obtain ⟨hx, hb, hml, hown, hts, hW, hlk, hret, rfl, hK, hSs, hG⟩ := C
  intro H locs ls a1 a2 a3 a4 a5 T hT X9
  exact va_tlen hx hb ((strAt hN hW hSs).1 t ht).2.2.2 (ss9 X9 hT a4 hSs) (by rw [(wl_len t ht).1]; rfl) d (K H locs ls a1 a2 a3 a4 a5) T hT X9
theorem x_sbal (C : CX Γ X cc nL own ret R0) (hN : HT Γ) {t : Nat} {i : Int32} (ht : t < 21) (hi : inB i (WL.getD t []).length = true) (d : decode cc pc = .ok (.baload, 1)) (q : Nat) (hq : pc + 1 = q) (K : G Γ X M cs sl L (.int (nI ((WL.getD t []).getD i.toNatClampNeg 0)) :: st) q) : G Γ X M cs sl L (.int i :: .ref (wsv Γ t) :: st) pc := by
  subst hq
  obtain ⟨p, e, R, s, m, args, below, meth, c, Q⟩ := X
  obtain ⟨hx, hb, hml, hown, hts, hW, hlk, hret, rfl, hK, hSs, hG⟩ := C
  intro H locs ls a1 a2 a3 a4 a5 T hT X9
  have hj : i.toNatClampNeg < (WL.getD t []).length := by
    simp only [inB, Bool.and_eq_true, decide_eq_true_eq] at hi
    exact hi.2
  have hv := (wl_at t ht _ hj).1
  exact va_tb hx hb ((strAt hN hW hSs).1 t ht).2.2.2 (ss9 X9 hT a4 hSs) (by rw [(wl_len t ht).1]; exact inB_in hi) (by rw [hv]) d (K H locs ls a1 a2 a3 a4 a5) T hT X9
theorem x_nret {rM : Int32 × Mem} {x : Int32} {ty : FieldType} (C : CX Γ X cc nL own (some ty) R0) (E : EndN Γ X (some (.int x)) M mc ms) (hz : narrow ty (.int x) = .int x) (hc : cs ≤ mc) (hs : sl ≤ ms) (d : decode cc pc = .ok (.ireturn, 1)) : G Γ X M cs sl L [.int x] pc := by
  obtain ⟨p, e, R, s, m, args, below, meth, c, Q⟩ := X
  obtain ⟨hx, hb, hml, hown, hts, hW, hlk, hret, hR, hK, hSs, hG⟩ := C
  intro H locs ls a1 a2 a3 a4 a5
  refine W.widen hc hs ?_
  rw [show Q = _ from E]
  exact W.zret hx hb hret hz (fun t ht hW1 => ⟨rfl, a1, State.WarmedH.trans hW hW1, by rw [ht]; exact S_nil a4, by rw [ht]; exact a2, a3⟩) a4.2.2 d hlk
theorem x_i2c (C : CX Γ X cc nL own ret R0) {x : Int32} (d : decode cc pc = .ok (.i2c, 1)) (q : Nat) (hq : pc + 1 = q) (k : G Γ X M cs sl L (.int (x.toUInt32 % 65536).toInt32 :: st) q) : G Γ X M cs sl L (.int x :: st) pc := by
  subst hq
  obtain ⟨p, e, R, s, m, args, below, meth, c, Q⟩ := X
  obtain ⟨hx, hb, hml, hown, hts, hW, hlk, hret, hR, hK, hSs, hG⟩ := C
  intro H locs ls a1 a2 a3 a4 a5
  exact lv_i2c hx hb d rfl (k H locs ls a1 a2 a3 a4 a5)
theorem x_ifF_eq (C : CX Γ X cc nL own ret R0) {x : Int32} {off : Int} (h : ¬ x = 0) (d : decode cc pc = .ok (.ifCond .eq off, 3)) (tgt : Nat) (ht : (pc : Int) + off = (tgt : Int)) (q : Nat) (hq : pc + 3 = q) (k : G Γ X M cs sl L st q) : G Γ X M cs sl L (.int x :: st) pc := x_if_eq (β := Unit) (rM := ()) (a := none) (b := some ()) C tgt d q hq ht (if_neg h) (fun z => nomatch z) (fun _ => k)
theorem x_ifF_ne (C : CX Γ X cc nL own ret R0) {x : Int32} {off : Int} (h : x = 0) (d : decode cc pc = .ok (.ifCond .ne off, 3)) (tgt : Nat) (ht : (pc : Int) + off = (tgt : Int)) (q : Nat) (hq : pc + 3 = q) (k : G Γ X M cs sl L st q) : G Γ X M cs sl L (.int x :: st) pc := x_if_ne (β := Unit) (rM := ()) (a := none) (b := some ()) C tgt d q hq ht (if_pos h) (fun z => nomatch z) (fun _ => k)
theorem x_ifF_lt (C : CX Γ X cc nL own ret R0) {x : Int32} {off : Int} (h : ¬ x < 0) (d : decode cc pc = .ok (.ifCond .lt off, 3)) (tgt : Nat) (ht : (pc : Int) + off = (tgt : Int)) (q : Nat) (hq : pc + 3 = q) (k : G Γ X M cs sl L st q) : G Γ X M cs sl L (.int x :: st) pc := x_if_lt (β := Unit) (rM := ()) (a := none) (b := some ()) C tgt d q hq ht (if_neg h) (fun z => nomatch z) (fun _ => k)
theorem x_icT_lt (C : CX Γ X cc nL own ret R0) {x y : Int32} {off : Int} (h : x < y) (d : decode cc pc = .ok (.if_icmp .lt off, 3)) (tgt : Nat) (ht : (pc : Int) + off = (tgt : Int)) (k : G Γ X M cs sl L st tgt) : G Γ X M cs sl L (.int y :: .int x :: st) pc := x_icmp_lt (β := Unit) (rM := ()) (a := some ()) (b := none) C tgt d (pc + 3) rfl ht (if_pos h) (fun _ => k) (fun z => nomatch z)
end Str
theorem c_J0_coder_7d493 {Γ : WC} (hN : HT Γ) {M : Mem} {t : Nat} (ht : t < 21) : Ct Γ yJ0_coder_7d493 cJ0_coder_7d493 1 (some .byte) (rmL 0 0 0) [.ref (wst Γ t)] M (some (.int 0)) M := by
  refine mkN hN.1 (own := RJ0) rfl (by decide) (Nat.le_of_ble_eq_true rfl) (fun X C E => ?_)
  change G Γ X M 0 0 [some (.ref (wst Γ t))] [] 0
  refine x_gsC C hN fl_RJ0_38 dj_J0_coder_7d493_0 3 rfl ?_
  refine x_ifF_eq C (by decide) dj_J0_coder_7d493_3 13 (by decide) 6 rfl ?_
  refine x_aload_n C rfl rfl dj_J0_coder_7d493_6 7 rfl ?_
  refine x_gfC C hN ht fl_RJ0_15 dj_J0_coder_7d493_7 10 rfl ?_
  refine x_goto C 14 dj_J0_coder_7d493_10 (by decide) ?_
  exact x_nret (rM := (0, M)) C E rfl (Nat.le_refl _) (Nat.le_refl _) dj_J0_coder_7d493_14
theorem c_J0_isLatin1_aae02 {Γ : WC} (hN : HT Γ) {M : Mem} {t : Nat} (ht : t < 21) : Ct Γ yJ0_isLatin1_aae02 cJ0_isLatin1_aae02 1 (some .boolean) (rmL 0 0 0) [.ref (wst Γ t)] M (some (.int 1)) M := by
  refine mkN hN.1 (own := RJ0) rfl (by decide) (Nat.le_of_ble_eq_true rfl) (fun X C E => ?_)
  change G Γ X M 0 0 [some (.ref (wst Γ t))] [] 0
  refine x_gsC C hN fl_RJ0_38 dj_J0_isLatin1_aae02_0 3 rfl ?_
  refine x_ifF_eq C (by decide) dj_J0_isLatin1_aae02_3 17 (by decide) 6 rfl ?_
  refine x_aload_n C rfl rfl dj_J0_isLatin1_aae02_6 7 rfl ?_
  refine x_gfC C hN ht fl_RJ0_15 dj_J0_isLatin1_aae02_7 10 rfl ?_
  refine x_ifF_ne C rfl dj_J0_isLatin1_aae02_10 17 (by decide) 13 rfl ?_
  refine x_iconst C (v := 1) (by decide) dj_J0_isLatin1_aae02_13 14 rfl ?_
  refine x_goto C 18 dj_J0_isLatin1_aae02_14 (by decide) ?_
  exact x_nret (rM := (0, M)) C E rfl (Nat.le_refl _) (Nat.le_refl _) dj_J0_isLatin1_aae02_18
theorem x_cStr {Γ : WC} {X : MX} {M M1 : Mem} {cs sl : Nat} {L : List (Option Value)} {st stk As : List Value} {pc idx n maxL t : Nat} {cc bytes : ByteArray} {nL : Nat} {own : String} {ret rt : Option FieldType} {R0 rm : Room} {y : MethodName} {v : Option Value} (C : CX Γ X cc nL own ret R0) (hN : HT Γ) (ht : t < 21) (hM : Ct Γ y bytes maxL rt rm (.ref (wst Γ t) :: As) M v M1) (mw : MW y bytes maxL rt n) (ln : Gd (.methodLink own idx y)) (mi : Gd (.instanceMethod y) ∧ Gd (.selects y.cls y y)) (hy : y.cls = "java/lang/String") (hr : RO rm R0 maxL cs sl) (hn : As.length = n) (hst : stk = As.reverse ++ .ref (wst Γ t) :: st) (hw : (st.map fun v => v.category).sum ≤ 8) (d : decode cc pc = .ok (.invokevirtual idx, 3)) (q : Nat) (hq : pc + 3 = q) (cs1 sl1 : Nat) (ec : cs + rm.cells = cs1) (es : sl + rm.slots = sl1) (K : G Γ X M1 cs1 sl1 L (v.toList ++ st) q) : G Γ X M cs sl L stk pc := by
  obtain ⟨p, e, R, s, m, args, below, meth, c, Q⟩ := X
  obtain ⟨hx, hb, hml, hown, hts, hW, hlk, hret, rfl, hK, hSs, hG⟩ := C
  subst hst; subst hml; subst hq; subst ec; subst es
  intro H locs ls a1 a2 a3 a4 a5
  exact callN (va_runV (Ts := []) (own := own) ⟨hx, hb, rfl, hown, fun _ h => nomatch h⟩ hM ⟨cw_B hW hts hG mw hr ln, hts _ mi.1, hts _ mi.2⟩ ⟨WP.blind, by rw [hy]; exact mi_recv hN ht hW hSs a4, fun U hU hU2 => ⟨rfl, a1, State.WarmedH.trans hW hU2, by rw [hU]; exact S_nil a4, by rw [hU]; exact a2, a3⟩⟩ rfl hn a5.1 rfl (lv_room hw) d ⟨hr.2.2.1, hr.2.2.2⟩) a4 (fun H1 locs1 b1 b2 b3 b4 => K H1 locs1 ls b1 b2 b3 b4 a5)
theorem c_J0_length_8abf5 {Γ : WC} (hN : HT Γ) {M : Mem} {t : Nat} (ht : t < 21) : Ct Γ yJ0_length_8abf5 cJ0_length_8abf5 1 (some .int) (rmL 1 0 0) [.ref (wst Γ t)] M (some (.int (slen t))) M := by
  refine mkN hN.1 (own := RJ0) rfl (by decide) (Nat.le_of_ble_eq_true rfl) (fun X C E => ?_)
  change G Γ X M 0 0 [some (.ref (wst Γ t))] [] 0
  refine x_aload_n C rfl rfl dj_J0_length_8abf5_0 1 rfl ?_
  refine x_gfV C hN ht fl_RJ0_9 dj_J0_length_8abf5_1 4 rfl ?_
  refine x_sal C hN ht dj_J0_length_8abf5_4 5 rfl ?_
  refine x_aload_n C rfl rfl dj_J0_length_8abf5_5 6 rfl ?_
  refine x_cStr C hN ht (c_J0_coder_7d493 hN ht) mw_J0_coder_7d493 ln_RJ0_335 mi_J0_coder_7d493 rfl (ro_of (by decide) (by decide) (by decide) (by decide)) rfl rfl (Nat.le_of_ble_eq_true rfl) dj_J0_length_8abf5_6 9 rfl 0 0 rfl rfl ?_
  show G Γ X M 0 0 _ (.int 0 :: .int (slen t) :: []) 9
  refine x_ishr C dj_J0_length_8abf5_9 10 rfl ?_
  rw [show slen t >>> ((0 : Int32) &&& 31) = slen t from sc_shr0 (Nat.lt_trans (wl_len t ht).2 (by decide))]
  exact x_nret (rM := (0, M)) C E rfl (Nat.le_refl _) (Nat.le_refl _) dj_J0_length_8abf5_10
theorem c_J3_checkIndex_8e157 {Γ : WC} (hN : HT Γ) {M : Mem} {i n : Int32} {v : Value} (hv : v.category = 1) (h0 : ¬ i < 0) (h1 : i < n) : Ct Γ yJ3_checkIndex_8e157 cJ3_checkIndex_8e157 3 (some .int) (rmL 0 0 0) [.int i, .int n, v] M (some (.int i)) M := by
  have hv2 : ¬ v.category = 2 := by omega
  refine mkN hN.1 (own := RJ3) rfl (by decide) (by simp only [lg_sl, List.flatMap_cons, List.flatMap_nil, if_neg hv2]; exact Nat.le_of_ble_eq_true rfl) (fun X C E => ?_)
  rw [show lE [Value.int i, Value.int n, v] = [some (.int i), some (.int n), some v] by simp only [lE, if_neg hv2]; rfl]
  refine x_iload_n C rfl rfl dj_J3_checkIndex_8e157_0 1 rfl ?_
  refine x_ifF_lt C h0 dj_J3_checkIndex_8e157_1 9 (by decide) 4 rfl ?_
  refine x_iload_n C rfl rfl dj_J3_checkIndex_8e157_4 5 rfl ?_
  refine x_iload_n C rfl rfl dj_J3_checkIndex_8e157_5 6 rfl ?_
  refine x_icT_lt C h1 dj_J3_checkIndex_8e157_6 16 (by decide) ?_
  refine x_iload_n C rfl rfl dj_J3_checkIndex_8e157_16 17 rfl ?_
  exact x_nret (rM := (0, M)) C E rfl (Nat.le_refl _) (Nat.le_refl _) dj_J3_checkIndex_8e157_17
theorem c_J0_checkIndex_df160 {Γ : WC} (hN : HT Γ) {M : Mem} {i n : Int32} (h0 : ¬ i < 0) (h1 : i < n) : Ct Γ yJ0_checkIndex_df160 cJ0_checkIndex_df160 2 none (rmL 1 0 0) [.int i, .int n] M none M := by
  refine mkN hN.1 (own := RJ0) rfl (by decide) (Nat.le_of_ble_eq_true rfl) (fun X C E => ?_)
  change G Γ X M 0 0 [some (.int i), some (.int n)] [] 0
  refine x_iload_n C rfl rfl dj_J0_checkIndex_df160_0 1 rfl ?_
  refine x_iload_n C rfl rfl dj_J0_checkIndex_df160_1 2 rfl ?_
  refine x_gsF C hN fl_RJ0_1053 dj_J0_checkIndex_df160_2 5 rfl (fun v hv => ?_)
  refine x_cSi C (c_J3_checkIndex_8e157 hN hv h0 h1) mw_J3_checkIndex_8e157 ln_RJ0_1059 ms_J3_checkIndex_8e157 (ro_of (by decide) (by decide) (by decide) (by decide)) rfl rfl (Nat.le_of_ble_eq_true rfl) dj_J0_checkIndex_df160_5 8 rfl 0 0 rfl rfl ?_
  refine x_pop C rfl dj_J0_checkIndex_df160_8 9 rfl ?_
  exact x_vret (rM := ((), M)) C E rfl (Nat.le_refl _) (Nat.le_refl _) dj_J0_checkIndex_df160_9
theorem c_J1_charAt_3b067 {Γ : WC} (hN : HT Γ) {M : Mem} {t : Nat} {i : Int32} (ht : t < 21) (hi : inB i (WL.getD t []).length = true) : Ct Γ yJ1_charAt_3b067 cJ1_charAt_3b067 2 (some .char) (rmL 2 0 0) [.ref (wsv Γ t), .int i] M (some (.int (nI ((WL.getD t []).getD i.toNatClampNeg 0)))) M := by
  refine mkN hN.1 (own := RJ1) rfl (by decide) (Nat.le_of_ble_eq_true rfl) (fun X C E => ?_)
  change G Γ X M 0 0 [some (.ref (wsv Γ t)), some (.int i)] [] 0
  have hi2 := hi
  simp only [inB, Bool.and_eq_true, decide_eq_true_eq] at hi2
  have hl := (wl_len t ht).2
  have h0 : ¬ i < 0 := Int32.not_lt.mpr hi2.1
  obtain ⟨j, hj, rfl⟩ := nI_of h0
  have hjl : j < (WL.getD t []).length := by rw [nI_clamp hj] at hi2; exact hi2.2
  have h1 : nI j < slen t := nI_lt hjl (by omega)
  refine x_iload_n C rfl rfl dj_J1_charAt_3b067_0 1 rfl ?_
  refine x_aload_n C rfl rfl dj_J1_charAt_3b067_1 2 rfl ?_
  refine x_sal C hN ht dj_J1_charAt_3b067_2 3 rfl ?_
  refine x_cSv C (c_J0_checkIndex_df160 hN h0 h1) mw_J0_checkIndex_df160 ln_RJ1_9 ms_J0_checkIndex_df160 (ro_of (by decide) (by decide) (by decide) (by decide)) rfl rfl (Nat.le_of_ble_eq_true rfl) dj_J1_charAt_3b067_3 6 rfl 0 0 rfl rfl ?_
  refine x_aload_n C rfl rfl dj_J1_charAt_3b067_6 7 rfl ?_
  refine x_iload_n C rfl rfl dj_J1_charAt_3b067_7 8 rfl ?_
  refine x_sbal C hN ht hi dj_J1_charAt_3b067_8 9 rfl ?_
  refine x_sipush C (v := 255) (by decide) dj_J1_charAt_3b067_9 12 rfl ?_
  refine x_iand C dj_J1_charAt_3b067_12 13 rfl ?_
  refine x_i2c C dj_J1_charAt_3b067_13 14 rfl ?_
  have hc := ch_i2c _ (wl_at t ht (nI j).toNatClampNeg (by rw [nI_clamp hj]; exact hjl)).2
  rw [hc.1]
  exact x_nret (rM := (0, M)) C E hc.2 (Nat.le_refl _) (Nat.le_refl _) dj_J1_charAt_3b067_14
theorem c_J0_charAt_5068e {Γ : WC} (hN : HT Γ) {M : Mem} {t : Nat} {i : Int32} (ht : t < 21) (hi : inB i (WL.getD t []).length = true) : Ct Γ yJ0_charAt_5068e cJ0_charAt_5068e 2 (some .char) (rmL 3 0 0) [.ref (wst Γ t), .int i] M (some (.int (nI ((WL.getD t []).getD i.toNatClampNeg 0)))) M := by
  refine mkN hN.1 (own := RJ0) rfl (by decide) (Nat.le_of_ble_eq_true rfl) (fun X C E => ?_)
  change G Γ X M 0 0 [some (.ref (wst Γ t)), some (.int i)] [] 0
  refine x_aload_n C rfl rfl dj_J0_charAt_5068e_0 1 rfl ?_
  refine x_cStr C hN ht (c_J0_isLatin1_aae02 hN ht) mw_J0_isLatin1_aae02 ln_RJ0_492 mi_J0_isLatin1_aae02 rfl (ro_of (by decide) (by decide) (by decide) (by decide)) rfl rfl (Nat.le_of_ble_eq_true rfl) dj_J0_charAt_5068e_1 4 rfl 0 0 rfl rfl ?_
  show G Γ X M 0 0 _ (.int 1 :: []) 4
  refine x_ifF_eq C (by decide) dj_J0_charAt_5068e_4 16 (by decide) 7 rfl ?_
  refine x_aload_n C rfl rfl dj_J0_charAt_5068e_7 8 rfl ?_
  refine x_gfV C hN ht fl_RJ0_9 dj_J0_charAt_5068e_8 11 rfl ?_
  refine x_iload_n C rfl rfl dj_J0_charAt_5068e_11 12 rfl ?_
  refine x_cSi C (c_J1_charAt_3b067 hN ht hi) mw_J1_charAt_3b067 ln_RJ0_495 ms_J1_charAt_3b067 (ro_of (by decide) (by decide) (by decide) (by decide)) rfl rfl (Nat.le_of_ble_eq_true rfl) dj_J0_charAt_5068e_12 15 rfl 0 0 rfl rfl ?_
  have hj : i.toNatClampNeg < (WL.getD t []).length := by simp only [inB, Bool.and_eq_true, decide_eq_true_eq] at hi; exact hi.2
  exact x_nret (rM := (0, M)) C E (ch_i2c _ (wl_at t ht _ hj).2).2 (Nat.le_refl _) (Nat.le_refl _) dj_J0_charAt_5068e_15
section Lib1
variable {Γ : WC} {X : MX} {M : Mem} {cs sl : Nat} {L : List (Option Value)} {st : List Value} {pc : Nat} {cc : ByteArray} {nL : Nat} {own : String} {ret : Option FieldType} {R0 : Room} {β : Type} {rM : β} {idx : Nat}
theorem x_maxI (C : CX Γ X cc nL own ret R0) {x y : Int32} {k : Int32 → Option β} (ln : Gd (.methodLink own idx yJ9_max_7cf53)) (hr : 2 ≤ R0.frames ∧ 60 ≤ R0.locals ∧ cs ≤ R0.cells ∧ sl ≤ R0.slots) (hw : (st.map fun v => v.category).sum ≤ 8) (d : decode cc pc = .ok (.invokestatic idx, 3)) (q : Nat) (hq : pc + 3 = q) (hf : bd (if x < y then y else x) k = some rM) (K : ∀ v, k v = some rM → G Γ X M cs sl L (.int v :: st) q) : G Γ X M cs sl L (.int y :: .int x :: st) pc := by
  subst hq
  obtain ⟨p, e, R, s, m, args, below, meth, c, Q⟩ := X
  obtain ⟨hx, hb, hml, hown, hts, hW, hlk, hret, rfl, hK, hSs, hG⟩ := C
  intro H locs ls a1 a2 a3 a4 a5
  exact va_mmax hx hb a5.1.symm hown (hts _ ln) (hts _ ll_maxI.1) (hts _ ll_maxI.2.1) (hts _ ll_maxI.2.2) (by omega) (by omega) hr.2.2.1 hr.2.2.2 d (K _ hf H locs ls a1 a2 a3 a4 a5)
theorem x_minI (C : CX Γ X cc nL own ret R0) {x y : Int32} {k : Int32 → Option β} (ln : Gd (.methodLink own idx yJ9_min_7cf53)) (hr : 2 ≤ R0.frames ∧ 60 ≤ R0.locals ∧ cs ≤ R0.cells ∧ sl ≤ R0.slots) (hw : (st.map fun v => v.category).sum ≤ 8) (d : decode cc pc = .ok (.invokestatic idx, 3)) (q : Nat) (hq : pc + 3 = q) (hf : bd (if y < x then y else x) k = some rM) (K : ∀ v, k v = some rM → G Γ X M cs sl L (.int v :: st) q) : G Γ X M cs sl L (.int y :: .int x :: st) pc := by
  subst hq
  obtain ⟨p, e, R, s, m, args, below, meth, c, Q⟩ := X
  obtain ⟨hx, hb, hml, hown, hts, hW, hlk, hret, rfl, hK, hSs, hG⟩ := C
  intro H locs ls a1 a2 a3 a4 a5
  exact va_mmin hx hb a5.1.symm hown (hts _ ln) (hts _ ll_minI.1) (hts _ ll_minI.2.1) (hts _ ll_minI.2.2) (by omega) (by omega) hr.2.2.1 hr.2.2.2 d (K _ hf H locs ls a1 a2 a3 a4 a5)
theorem x_maxL (C : CX Γ X cc nL own ret R0) {x y : Int64} {k : Int64 → Option β} (ln : Gd (.methodLink own idx yJ9_max_f86c9)) (hr : 2 ≤ R0.frames ∧ 60 ≤ R0.locals ∧ cs ≤ R0.cells ∧ sl ≤ R0.slots) (hw : (st.map fun v => v.category).sum ≤ 8) (d : decode cc pc = .ok (.invokestatic idx, 3)) (q : Nat) (hq : pc + 3 = q) (hf : bd (if y < x then x else y) k = some rM) (K : ∀ v, k v = some rM → G Γ X M cs sl L (.long v :: st) q) : G Γ X M cs sl L (.long y :: .long x :: st) pc := by
  subst hq
  obtain ⟨p, e, R, s, m, args, below, meth, c, Q⟩ := X
  obtain ⟨hx, hb, hml, hown, hts, hW, hlk, hret, rfl, hK, hSs, hG⟩ := C
  intro H locs ls a1 a2 a3 a4 a5
  exact va_mmax_long hx hb a5.1.symm hown (hts _ ln) (hts _ ll_maxL.1) (hts _ ll_maxL.2.1) (hts _ ll_maxL.2.2) (by omega) (by omega) hr.2.2.1 hr.2.2.2 d (K _ hf H locs ls a1 a2 a3 a4 a5)
theorem x_fdivK (C : CX Γ X cc nL own ret R0) {x y : UInt32} {a : Option β} (d : decode cc pc = .ok (.fdiv, 1)) (q : Nat) (hq : pc + 1 = q) (hf : okF (FP.fdiv x y) a = some rM) (K : a = some rM → G Γ X M cs sl L (.float (FP.fdiv x y) :: st) q) : G Γ X M cs sl L (.float y :: .float x :: st) pc := by
  obtain ⟨h1, h2⟩ := if_some hf
  exact x_fdiv C h1 d q hq (K h2)
theorem x_slen (C : CX Γ X cc nL own ret R0) (hN : HT Γ) {t : Nat} (ht : t < 21) (ln : Gd (.methodLink own idx yJ0_length_8abf5)) (hr : 5 ≤ R0.frames ∧ 200 ≤ R0.locals ∧ cs ≤ R0.cells ∧ sl ≤ R0.slots) (hw : (st.map fun v => v.category).sum ≤ 8) (d : decode cc pc = .ok (.invokevirtual idx, 3)) (q : Nat) (hq : pc + 3 = q) (K : G Γ X M cs sl L (.int (slen t) :: st) q) : G Γ X M cs sl L (.ref (wst Γ t) :: st) pc := by
  have hR9 : RO (rmL 1 0 0) R0 1 cs sl := ⟨by show 1 + 1 + 1 ≤ _; omega, by show 8 + (1 + 11) + 44 * 2 ≤ _; omega, by show cs + 0 ≤ _; omega, by show sl + 0 ≤ _; omega⟩
  exact x_cStr C hN ht (c_J0_length_8abf5 hN ht) mw_J0_length_8abf5 ln mi_J0_length_8abf5 rfl hR9 rfl rfl hw d q hq cs sl rfl rfl K
theorem x_charAt (C : CX Γ X cc nL own ret R0) (hN : HT Γ) {t : Nat} {i : Int32} {k : Int32 → Option β} (ht : t < 21) (ln : Gd (.methodLink own idx yJ0_charAt_5068e)) (hr : 7 ≤ R0.frames ∧ 260 ≤ R0.locals ∧ cs ≤ R0.cells ∧ sl ≤ R0.slots) (hw : (st.map fun v => v.category).sum ≤ 8) (d : decode cc pc = .ok (.invokevirtual idx, 3)) (q : Nat) (hq : pc + 3 = q) (hf : rdS t i k = some rM) (K : ∀ v, k v = some rM → G Γ X M cs sl L (.int v :: st) q) : G Γ X M cs sl L (.int i :: .ref (wst Γ t) :: st) pc := by
  obtain ⟨hi, hf⟩ := if_some hf
  have hR9 : RO (rmL 3 0 0) R0 2 cs sl := ⟨by show 3 + 1 + 1 ≤ _; omega, by show 8 + (2 + 11) + 44 * 4 ≤ _; omega, by show cs + 0 ≤ _; omega, by show sl + 0 ≤ _; omega⟩
  exact x_cStr C hN ht (c_J0_charAt_5068e hN ht hi) mw_J0_charAt_5068e ln mi_J0_charAt_5068e rfl hR9 rfl rfl hw d q hq cs sl rfl rfl (K _ hf)
theorem cE_sC {dA : Nat → ClassId} {ad : Nat → Nat} {M : Mem} {x s b d n : Nat} {a : Nat} (h : a ≠ b) (e : SE) : cE dA ad (sC M x s b d n) a e = cE dA ad M a e := by
  have h1f : gI (sC M x s b d n) a = gI M a := funext fun k => if_neg h
  have h2f : gL (sC M x s b d n) a = gL M a := rfl
  have h3f : gR (sC M x s b d n) a = gR M a := rfl
  have h4 : ∀ j q, fVal ad (sC M x s b d n) a j q = fVal ad M a j q := fun j q => by simp only [fVal, h1f, h2f, h3f]
  simp only [cE, vlen, fsO, h1f, h2f, h3f, h4]
theorem x_copy (C : CX Γ X cc nL own ret R0) {a na b nb : Nat} {sp dp n : Int32} {k : Mem → Option β} (ha : On Γ a (0, na)) (hb9 : On Γ b (0, nb)) (ln : Gd (.methodLink own idx arraycopyName)) (hr : 2 ≤ R0.frames ∧ 60 ≤ R0.locals ∧ cs ≤ R0.cells ∧ sl ≤ R0.slots) (hw : (st.map fun v => v.category).sum ≤ 8) (d : decode cc pc = .ok (.invokestatic idx, 3)) (q : Nat) (hq : pc + 3 = q) (hf : cpI M a na sp b nb dp n k = some rM) (K : ∀ M1, k M1 = some rM → G Γ X M1 cs sl L st q) : G Γ X M cs sl L (.int n :: .int dp :: .ref (wad Γ b) :: .int sp :: .ref (wad Γ a) :: st) pc := by
  subst hq
  obtain ⟨p, e, R, s, m, args, below, meth, c, Q⟩ := X
  obtain ⟨hx, hb, hml, hown, hts, hW, hlk, hret, rfl, hK, hSs, hG⟩ := C
  intro H locs ls a1 a2 a3 a4 a5
  obtain ⟨⟨z1, z2, z3, z4, z5⟩, hf⟩ := if_some hf
  refine va_copyi hx hb a5.1.symm hown (hts _ ln) (hts _ ll_copy.1) (hts _ ll_copy.2.1) (hts _ ll_copy.2.2) hK a2 a3 a4 (px Γ a) (px Γ b) 0 0 (wO_at ha) (wO_at hb9) rfl rfl rfl z1 z2 z3 z4 z5 (fun _ _ => rfl) (by omega) (by simp [nativeFrameWords]; omega) d (fun H1 locs1 hP1 hD1 hS1 => ?_)
  have e1 : (wO Γ M).set (px Γ b) (wad Γ b, cE (wA Γ) (wad Γ) (sC M a sp.toNatClampNeg b dp.toNatClampNeg n.toNatClampNeg) b (0, nb)) = wO Γ (sC M a sp.toNatClampNeg b dp.toNatClampNeg n.toNatClampNeg) := wO_set hb9 (fun x hx q => cE_sC hx q)
  have e2 : (gI (sC M a sp.toNatClampNeg b dp.toNatClampNeg n.toNatClampNeg) b) = va_cpy (gI M a) (gI M b) sp.toNatClampNeg dp.toNatClampNeg n.toNatClampNeg := funext fun j => if_pos rfl
  have e3 : cE (wA Γ) (wad Γ) (sC M a sp.toNatClampNeg b dp.toNatClampNeg n.toNatClampNeg) b (0, nb) = (Sum.inl (wA Γ 0, nb, Sum.inl (va_cpy (gI M a) (gI M b) sp.toNatClampNeg dp.toNatClampNeg n.toNatClampNeg)) : va_E) := by
    rw [← e2]; rfl
  rw [← e3, e1] at hP1 hD1
  exact K _ hf H1 locs1 ls (hG.kw M _ (fun _ _ => rfl) a1) hP1 hD1 hS1 a5
theorem x_ldcS (C : CX Γ X cc nL own ret R0) {t : Nat} {tx : String} (hs : vk_R own idx tx (wst Γ t) (wU Γ)) (d : decode cc pc = .ok (.ldc idx, 2)) (q : Nat) (hq : pc + 2 = q) (K : G Γ X M cs sl L (.ref (wst Γ t) :: st) q) : G Γ X M cs sl L st pc := by
  subst hq
  obtain ⟨p, e, R, s, m, args, below, meth, c, Q⟩ := X
  obtain ⟨hx, hb, hml, hown, hts, hW, hlk, hret, hR, hK, hSs, hG⟩ := C
  intro H locs ls a1 a2 a3 a4 a5
  exact va_ldcS hx hb hown (vk_R.warm hW hs) d (K H locs ls a1 a2 a3 a4 a5)
end Lib1
