def LTY : List FieldType := [.int, .long, .byte, .boolean, .int, .object "DecisionChain$Settings", .array .int, .array (.array .int), .array .boolean]
theorem whole_start {p : Program} {e : Env} {s : State} {m : MethodId} {below : List Frame} {meth : Method} {c : Code} (l : Launch) (hflags : l.flags = flags0) {b L : Nat} {xs : Nat → Int32} (hL : L ≤ 260) (C0 : lw_At p s m meth c b L xs) : W p l e room_1 s m #[Value.ref b] below meth c s.heap [] 0 0 (lw_Z below #[Value.ref b] s) (entryFrame m ([Value.ref b] : List Value).toArray 6) := by
  obtain ⟨hx, hb, hr, hml, hown, hts, hX, hbl, hlk, hgv⟩ := C0
  have hfl := flat_of_before _ hgv
  have hA : ∀ a : Nat, a < s.heap.size → ¬ (fun q => s.heap.size ≤ q) a := fun a h => Nat.not_le.mpr h
  have hxs : ∀ w ∈ exS, w.before #[Value.ref b] s = true := by
    intro w hw
    simp only [exS, List.mem_cons, List.not_mem_nil, or_false] at hw
    rcases hw with rfl | rfl | rfl | rfl
    · exact sel_priv (C := RJ4) (y := yJ5_newCapacity_0f7a4) (x0 := yJ5_isLatin1_aae02) (y0 := yJ5_isLatin1_aae02) ⟨by decide, by decide⟩ (hts _ (List.mem_of_getElem? (i := 575) (by decide +kernel))) rfl (hts _ (List.mem_of_getElem? (i := 543) (by decide +kernel))) (hts _ (List.mem_of_getElem? (i := 544) (by decide +kernel)))
    · exact sel_priv (C := RJ4) (y := yJ5_ensureCapacityInternal_d00df) (x0 := yJ5_isLatin1_aae02) (y0 := yJ5_isLatin1_aae02) ⟨by decide, by decide⟩ (hts _ (List.mem_of_getElem? (i := 575) (by decide +kernel))) rfl (hts _ (List.mem_of_getElem? (i := 539) (by decide +kernel))) (hts _ (List.mem_of_getElem? (i := 540) (by decide +kernel)))
    · exact sel_priv (C := RJ4) (y := yJ5_putStringAt_47b60) (x0 := yJ5_isLatin1_aae02) (y0 := yJ5_isLatin1_aae02) ⟨by decide, by decide⟩ (hts _ (List.mem_of_getElem? (i := 575) (by decide +kernel))) rfl (hts _ (List.mem_of_getElem? (i := 605) (by decide +kernel))) (hts _ (List.mem_of_getElem? (i := 606) (by decide +kernel)))
    · exact sel_priv (C := RJ4) (y := yJ5_inflateIfNeededFor_a7421) (x0 := yJ5_isLatin1_aae02) (y0 := yJ5_isLatin1_aae02) ⟨by decide, by decide⟩ (hts _ (List.mem_of_getElem? (i := 575) (by decide +kernel))) rfl (hts _ (List.mem_of_getElem? (i := 609) (by decide +kernel))) (hts _ (List.mem_of_getElem? (i := 610) (by decide +kernel)))
  have htx0 : ∀ w ∈ exS ++ lw_tbl, w.before #[Value.ref b] s = true := fun w hw => (List.mem_append.mp hw).elim (hxs w) (hts w)
  -- classes
  have hcl : ∀ i : Nat, ∃ q : ClassId × (Nat → Nat), ∀ r : vw_C, vwCl[i]? = some r → u_Kn s r.1 r.2.1 r.2.2 q.1 q.2 := by
    intro i
    match i with
    | 0 =>
      obtain ⟨cC, iS, h⟩ := u_known (C := RX0) (T := TX0) (N := 8) htx0 (fun w hw => (uw0 w hw).1) (htx0 _ ki_0.1)
      exact ⟨(cC, iS), fun r hr => by cases hr; exact h⟩
    | 1 =>
      obtain ⟨cC, iS, h⟩ := u_known (C := RX1) (T := TX1) (N := 7) htx0 (fun w hw => (uw1 w hw).1) (htx0 _ ki_1.1)
      exact ⟨(cC, iS), fun r hr => by cases hr; exact h⟩
    | 2 =>
      obtain ⟨cC, iS, h⟩ := u_known (C := RX2) (T := TX2) (N := 7) htx0 (fun w hw => (uw2 w hw).1) (htx0 _ ki_2.1)
      exact ⟨(cC, iS), fun r hr => by cases hr; exact h⟩
    | 3 =>
      obtain ⟨cC, iS, h⟩ := u_known (C := RX3) (T := TX3) (N := 4) htx0 (fun w hw => (uw3 w hw).1) (htx0 _ ki_3.1)
      exact ⟨(cC, iS), fun r hr => by cases hr; exact h⟩
    | 4 =>
      obtain ⟨cC, iS, h⟩ := u_known (C := RX4) (T := TX4) (N := 7) htx0 (fun w hw => (uw4 w hw).1) (htx0 _ ki_4.1)
      exact ⟨(cC, iS), fun r hr => by cases hr; exact h⟩
    | 5 =>
      obtain ⟨cC, iS, h⟩ := u_known (C := RX5) (T := TX5) (N := 11) htx0 (fun w hw => (uw5 w hw).1) (htx0 _ ki_5.1)
      exact ⟨(cC, iS), fun r hr => by cases hr; exact h⟩
    | 6 =>
      obtain ⟨cC, iS, h⟩ := u_known (C := RX6) (T := TX6) (N := 2) htx0 (fun w hw => (uw6 w hw).1) (htx0 _ ki_6.1)
      exact ⟨(cC, iS), fun r hr => by cases hr; exact h⟩
    | 7 =>
      obtain ⟨cC, iS, h⟩ := u_known (C := RX7) (T := TX7) (N := 9) htx0 (fun w hw => (uw7 w hw).1) (htx0 _ ki_7.1)
      exact ⟨(cC, iS), fun r hr => by cases hr; exact h⟩
    | 8 =>
      obtain ⟨cC, iS, h⟩ := u_known (C := RX8) (T := TX8) (N := 4) htx0 (fun w hw => (uw8 w hw).1) (htx0 _ ki_8.1)
      exact ⟨(cC, iS), fun r hr => by cases hr; exact h⟩
    | 9 =>
      obtain ⟨cC, iS, h⟩ := u_known (C := RX9) (T := TX9) (N := 3) htx0 (fun w hw => (uw9 w hw).1) (htx0 _ ki_9.1)
      exact ⟨(cC, iS), fun r hr => by cases hr; exact h⟩
    | 10 =>
      obtain ⟨cC, iS, h⟩ := u_known (C := RX10) (T := TX10) (N := 4) htx0 (fun w hw => (uw10 w hw).1) (htx0 _ ki_10.1)
      exact ⟨(cC, iS), fun r hr => by cases hr; exact h⟩
    | 11 =>
      obtain ⟨cC, iS, h⟩ := u_known (C := RX11) (T := TX11) (N := 12) htx0 (fun w hw => (uw11 w hw).1) (htx0 _ ki_11.1)
      exact ⟨(cC, iS), fun r hr => by cases hr; exact h⟩
    | 12 =>
      obtain ⟨cC, iS, h⟩ := u_known (C := RX12) (T := TX12) (N := 17) htx0 (fun w hw => (uw12 w hw).1) (htx0 _ ki_12.1)
      exact ⟨(cC, iS), fun r hr => by cases hr; exact h⟩
    | 13 =>
      obtain ⟨cC, iS, h⟩ := u_known (C := RX13) (T := TX13) (N := 2) htx0 (fun w hw => (uw13 w hw).1) (htx0 _ ki_13.1)
      exact ⟨(cC, iS), fun r hr => by cases hr; exact h⟩
    | 14 =>
      obtain ⟨cC, iS, h⟩ := u_known (C := RJ0) (T := TJ0) (N := 4) htx0 (fun w hw => (uw14 w hw).1) (htx0 _ ki_14.1)
      exact ⟨(cC, iS), fun r hr => by cases hr; exact h⟩
    | 15 =>
      obtain ⟨cC, iS, h⟩ := u_known (C := RJ4) (T := TJ4) (N := 4) htx0 (fun w hw => (uw15 w hw).1) (htx0 _ ki_15.1)
      exact ⟨(cC, iS), fun r hr => by cases hr; exact h⟩
    | i + 16 => exact ⟨(0, fun _ => 0), fun r hr => nomatch (show (none : Option vw_C) = some r from hr)⟩
  obtain ⟨D0, hD0⟩ := Classical.axiomOfChoice hcl
  -- arrays
  have har : ∀ k : Nat, ∃ cA : ClassId, ∀ ty : FieldType, LTY[k]? = some ty → ArrOfT s cA ty ∧ va_RA s cA ty := by
    intro k
    match k with
    | 0 =>
      obtain ⟨cA, h⟩ := arr_at (htx0 _ ka_int.1) trivial
      exact ⟨cA, fun ty e => by cases e; exact h⟩
    | 1 =>
      obtain ⟨cA, h⟩ := arr_at (htx0 _ ka_long.1) trivial
      exact ⟨cA, fun ty e => by cases e; exact h⟩
    | 2 =>
      obtain ⟨cA, h⟩ := arr_at (htx0 _ ka_byte.1) trivial
      exact ⟨cA, fun ty e => by cases e; exact h⟩
    | 3 =>
      obtain ⟨cA, h⟩ := arr_at (htx0 _ ka_boolean.1) trivial
      exact ⟨cA, fun ty e => by cases e; exact h⟩
    | 4 =>
      obtain ⟨cA, h⟩ := arr_at (htx0 _ ka_int.1) trivial
      exact ⟨cA, fun ty e => by cases e; exact h⟩
    | 5 =>
      obtain ⟨cA, h⟩ := arr_at5 (C := "DecisionChain$Settings") (hts _ (List.mem_of_getElem? (i := 300) (by decide +kernel)))
      exact ⟨cA, fun ty e => by cases e; exact h⟩
    | 6 =>
      obtain ⟨cA, h⟩ := arr_atA (t := .int) (hts _ (List.mem_of_getElem? (i := 650) (by decide +kernel)))
      exact ⟨cA, fun ty e => by cases e; exact h⟩
    | 7 =>
      obtain ⟨cA, h⟩ := arr_atA (t := .array .int) (hts _ (List.mem_of_getElem? (i := 652) (by decide +kernel)))
      exact ⟨cA, fun ty e => by cases e; exact h⟩
    | 8 =>
      obtain ⟨cA, h⟩ := arr_atA (t := .boolean) (hts _ (List.mem_of_getElem? (i := 654) (by decide +kernel)))
      exact ⟨cA, fun ty e => by cases e; exact h⟩
    | k + 9 => exact ⟨0, fun ty h => nomatch (show (none : Option FieldType) = some ty from h)⟩
  obtain ⟨dA, hdA⟩ := Classical.axiomOfChoice har
  -- texts
  have htx : ∀ t : Nat, ∃ a : Nat, t < 38 → (tmS t).eval #[Value.ref b] s none [] s = some (.ref a) := by
    intro t
    by_cases ht : t < 38
    · obtain ⟨a, c, cA, kA, q1, -⟩ := Cond.exactly_spec (args := #[Value.ref b]) (first := s) (o := none) (s := s) (idx := []) (t := tmS t) (cls := "java/lang/String") (hfl _ (tp_ex t ht))
      exact ⟨a, fun _ => q1⟩
    · exact ⟨0, fun h => absurd h ht⟩
  obtain ⟨st0, hst⟩ := Classical.axiomOfChoice htx
  have hwd : ∀ t : Nat, ∃ v : Nat, t < 21 → va_O "java/lang/String" (st0 t) (fun q => s.heap.size ≤ q) s s.heap ∧ va_OF "java/lang/String" "coder" "B" (.int 0) (st0 t) (fun q => s.heap.size ≤ q) s s.heap ∧ va_OF "java/lang/String" "value" "[B" (.ref v) (st0 t) (fun q => s.heap.size ≤ q) s s.heap ∧ va_T .byte v (WL.getD t []).length (fun j => .int (((WL.getD t []).map nI).getD j 0)) (fun q => s.heap.size ≤ q) s s.heap := by
    intro t
    by_cases ht : t < 21
    · obtain ⟨v, hv⟩ := word_of hfl hA ht (hst t (by omega))
      exact ⟨v, fun _ => hv⟩
    · exact ⟨0, fun h => absurd h ht⟩
  obtain ⟨sv, hsv⟩ := Classical.axiomOfChoice hwd
  obtain ⟨t1, hd1, hd2⟩ := va_Tof (args := #[Value.ref b]) (s := s) (tm := tD1) (ty := .byte) (N := 100) (f := fun j => .int (nI (48 + j % 10))) (A := fun q => s.heap.size ≤ q) (by decide) (hfl _ tp_d1.1) (va_eqt (hfl _ tp_d1.2.1)) (fun j hj => va_eqt (hfl _ (tp_d1.2.2 j hj))) hA
  obtain ⟨t2, hd3, hd4⟩ := va_Tof (args := #[Value.ref b]) (s := s) (tm := tD2) (ty := .byte) (N := 100) (f := fun j => .int (nI (48 + j / 10))) (A := fun q => s.heap.size ≤ q) (by decide) (hfl _ tp_d2.1) (va_eqt (hfl _ tp_d2.2.1)) (fun j hj => va_eqt (hfl _ (tp_d2.2.2 j hj))) hA
  obtain ⟨st, hs1, hs2, hs3⟩ : ∃ st : Nat → Nat, (∀ t, t < 50 → st t = st0 t) ∧ st 50 = t1 ∧ st 51 = t2 := ⟨fun t => if t = 50 then t1 else if t = 51 then t2 else st0 t, fun t ht => by
    show (if t = 50 then t1 else if t = 51 then t2 else st0 t) = st0 t
    rw [if_neg (by omega), if_neg (by omega)], rfl, rfl⟩
  have hKs : va_K (fun i => (D0 i).1, fun i => (D0 i).2) vwCl (tysA dA) s := by
    refine ⟨fun i r hr => hD0 i r hr, fun k q hq => ?_⟩
    match k with
    | 0 => cases hq; exact hdA 0 _ rfl
    | 1 => cases hq; exact hdA 1 _ rfl
    | 2 => cases hq; exact hdA 2 _ rfl
    | 3 => cases hq; exact hdA 3 _ rfl
    | 4 => cases hq; exact hdA 5 _ rfl
    | 5 => cases hq; exact hdA 6 _ rfl
    | 6 => cases hq; exact hdA 7 _ rfl
    | 7 => cases hq; exact hdA 8 _ rfl
    | k + 8 => exact nomatch (show (none : Option (ClassId × FieldType)) = some q from hq)
  have htr : l.stackTraces = false := by
    unfold Launch.stackTraces
    rw [hflags]
    decide
  obtain ⟨Γ, hΓ⟩ : ∃ Γ : WC, Γ = (s, (fun i => (D0 i).1, fun i => (D0 i).2), dA, KT, (fun _ => b), ([], SHF), l, st, sv) := ⟨_, rfl⟩
  have hHG : HG Γ := by
    rw [hΓ]
    exact ⟨fun w hw a U hU => hw.at htx0 hU, hKs, htr, vx_Zqof (hts _ (List.mem_of_getElem? (i := 878) (by decide +kernel))) (hts _ (List.mem_of_getElem? (i := 73) (by decide +kernel))) (hfl _ (by decide +kernel)) hA, vx_Zqof (hts _ (List.mem_of_getElem? (i := 880) (by decide +kernel))) (hts _ (List.mem_of_getElem? (i := 73) (by decide +kernel))) (hfl _ (by decide +kernel)) hA, fun _ _ _ _ => trivial⟩
  have hHS : HS Γ := by
    rw [hΓ]
    refine ⟨fun q hq => ?_, ⟨fun i hi => ?_, fun i j hi hj eij => ?_⟩, va_Zof (hts _ (List.mem_of_getElem? (i := 510) (by decide +kernel))) (hts _ (List.mem_of_getElem? (i := 51) (by decide +kernel))) (va_eqt (hfl _ (by decide +kernel))) hA, va_Zqof (hts _ (List.mem_of_getElem? (i := 591) (by decide +kernel))) (hts _ (List.mem_of_getElem? (i := 57) (by decide +kernel))) (hfl _ (by decide +kernel)) hA, ⟨?_, ?_⟩, ?_, ?_⟩
    · obtain ⟨h1, h2, h3⟩ := tp_stl q hq
      refine vk_R.of (hts _ h2) ?_
      have ht := hst _ h1
      show _ = some (Value.ref (st q.2.2.2))
      rw [hs1 _ (by omega)]
      rcases h3 with h3 | h3
      · rw [h3] at ht
        exact ht
      · exact va_eqR (hfl _ h3) ht
    · rw [(wl_map i hi).1, (wl_map i hi).2]
      have h := hsv i hi
      rw [← hs1 i (by omega)] at h
      exact h
    · obtain ⟨-, -, a1, a2⟩ := hsv i hi
      obtain ⟨-, -, b1, b2⟩ := hsv j hj
      have eij' : st i = st j := eij
      rw [hs1 i (by omega), hs1 j (by omega)] at eij'
      rw [eij'] at a1
      have ev : sv i = sv j := by
        have hz := of_same a1 b1
        exact Value.ref.inj hz
      rw [ev] at a2
      obtain ⟨cell, c1, c2, c3, c4, c5, c6, c7⟩ := a2
      obtain ⟨cell', d1, d2, d3, d4, d5, d6, d7⟩ := b2
      cases c1.symm.trans d1
      have hlen : (WL.getD i []).length = (WL.getD j []).length := by
        have := c5.symm.trans d5
        exact (nI_eq (Nat.lt_trans (wl_len i hi).2 (by decide)) (Nat.lt_trans (wl_len j hj).2 (by decide))).mp this
      refine wl_inj i hi j hj hlen (fun k hk => ?_)
      have := (c6 k hk).symm.trans (d6 k (by rw [← hlen]; exact hk))
      simp only [Option.some.injEq, Value.int.injEq] at this
      exact this
    · show va_Z "java/lang/Integer" "DigitOnes" "[B" (.ref (st 50)) _ s s.heap
      rw [hs2]
      exact va_Zof (hts _ (List.mem_of_getElem? (i := 674) (by decide +kernel))) (hts _ (List.mem_of_getElem? (i := 60) (by decide +kernel))) hd1 hA
    · show va_T .byte (st 50) 100 _ _ s s.heap
      rw [hs2]
      exact hd2
    · show va_Z "java/lang/Integer" "DigitTens" "[B" (.ref (st 51)) _ s s.heap
      rw [hs3]
      exact va_Zof (hts _ (List.mem_of_getElem? (i := 676) (by decide +kernel))) (hts _ (List.mem_of_getElem? (i := 60) (by decide +kernel))) hd3 hA
    · show va_T .byte (st 51) 100 _ _ s s.heap
      rw [hs3]
      exact hd4
  have hNC : NC Γ := by
    rw [hΓ]
    exact fun a b ha hb hab => va_Nc.of (hfl _ (tp_nc a ha b hb hab))
  have hov : va_AO "DecisionChain$Settings" (wU Γ) := by
    rw [hΓ]
    exact va_AO.of (hts _ (List.mem_of_getElem? (i := 300) (by decide +kernel)))
  have hQ : HQ Γ := by
    rw [hΓ]
    have f0 : s.vm.findClass "[I" = some (dA 0) := (hdA 0 _ rfl).2
    have f3 : s.vm.findClass "[Z" = some (dA 3) := (hdA 3 _ rfl).2
    have f6 : s.vm.findClass "[[I" = some (dA 6) := (hdA 6 _ rfl).2
    have f7 : s.vm.findClass "[[[I" = some (dA 7) := (hdA 7 _ rfl).2
    have f8 : s.vm.findClass "[[Z" = some (dA 8) := (hdA 8 _ rfl).2
    obtain ⟨-, kI, kI1, compI, kI2⟩ := (hdA 0 _ rfl).1 0 (fun _ => .null)
    obtain ⟨-, kZ, kZ1, compZ, kZ2⟩ := (hdA 3 _ rfl).1 0 (fun _ => .null)
    exact ⟨⟨arr_kd (t := .int) (hts _ (List.mem_of_getElem? (i := 650) (by decide +kernel))) f0 f6, f6⟩, ⟨arr_kd (t := .array .int) (hts _ (List.mem_of_getElem? (i := 652) (by decide +kernel))) f6 f7, f7⟩, ⟨arr_kd (t := .boolean) (hts _ (List.mem_of_getElem? (i := 654) (by decide +kernel))) f3 f8, f8⟩, ⟨kI, compI, kI1, kI2⟩, kZ, compZ, kZ1, kZ2⟩
  have hHX : HX0 Γ b L xs := by
    rw [hΓ]
    exact ⟨hX, hbl⟩
  have hd0 := Drawn.sameBut.refl s.drawn lw_cs
  obtain ⟨Z, rM, hZ⟩ := layerB L xs hL
  have hS0 : va_S (fun q => s.heap.size ≤ q) s.heap s.heap [] := va_S.rf
  have hWs : s.WarmedH s.vm := State.WarmedH.refl s
  have C : CX Γ (p, e, room_1, s, m, #[Value.ref b], below, meth, c, lw_Z below #[Value.ref b] s) cL_law 6 RL (some .boolean) room_1 := by
    rw [hΓ]
    rw [hΓ] at hHG
    exact ⟨hx, hb, hml, hown, fun w hw => hw.at htx0 hWs, hWs, hlk, hr, rfl, hKs, hS0, hHG⟩
  have hgo := c_law (Γ := Γ) ⟨hHG, hHS⟩ hQ hNC hov hHX C (fun Γ1 M cs sl pc Lx e1 e2 e3 h1 h2 hd H locs ls a1 a2 a3 a4 a5 => by
    rw [e3]
    rw [e1] at a4
    rw [hΓ] at a4 ⊢
    refine W.widen (show cs ≤ 600086 by omega) (show sl ≤ 7301442 by omega) ?_
    refine va_forget (fun q hq => a4.2.2 q hq) ?_
    exact W.base (lw_ret hd0 hx hb hr hlk hd)) hZ
  rw [hΓ] at hgo
  have hl := lv_entry ([.ref b]) (n := 6) (Nat.le_of_ble_eq_true rfl)
  rw [lg_entry_eq]
  have hP0 : va_P (fun i => (D0 i).1, fun i => (D0 i).2) vwCl [] s.heap := fun k q h => nomatch h
  have hD00 : va_D (fun q => s.heap.size ≤ q) [] := ⟨(fun i j p q h => nomatch h), (fun k q h => nomatch h)⟩
  exact hgo s.heap [] _ trivial hP0 hD00 hS0 (by rw [hml]; exact hl)
set_option maxHeartbeats 4000000 in
theorem lw_walk (l : Launch) (hflags : l.flags = flags0) (b : Addr) (xs : List Int32) : MetFree l x (headSpec (Jvm.Cond.code x code maxLocals ret :: tables_1) room_1) (lw_P b xs) (fun _ _ _ _ _ => True) lw_Q := by
  refine MetFree.of_bodyS (code := code) (maxLocals := maxLocals) (ret := ret) (by decide) ?_ ?_
  · intro args s m h hn
    obtain ⟨meth, c, h1, h2, h3, h4, h5, h6, -, -⟩ := Cond.code_spec hn (atoms_spec (ws := Jvm.Cond.code x code maxLocals ret :: tables_1) h _ List.mem_cons_self)
    exact ⟨meth, c, h1, h2, h3, h4, h5, h6⟩
  · intro p e s m args below meth c s₁ B hml0 hP _
    obtain ⟨rfl, hx, hbd, hgv⟩ := hP
    obtain ⟨scr, harrAt, hlist, hof, hsmall⟩ := hx
    obtain ⟨hcb, hkn, -, -⟩ := State.arrayAt?_spec harrAt
    have hown : s.vm.findClass R_law = some m.cls := findClass_of_methodNamed B.named
    have hts0 : ∀ c ∈ (Jvm.Cond.code x code maxLocals ret :: tables_1), c.before #[Value.ref b] s = true := atoms_spec (ws := Jvm.Cond.code x code maxLocals ret :: tables_1) B.pre
    have hts : ∀ w ∈ lw_tbl, w.before #[Value.ref b] s = true := k2_hts_sels lw_privs (fun w hw => hts0 w (List.mem_cons_of_mem _ hw)) lw_privs_ok
    have hml : c.maxLocals = 6 := B.maxLocals_eq (hts0 _ List.mem_cons_self)
    have X₀ : Stand p l e room_1 s m #[Value.ref b] below meth c s₁ [] 0 0 := Stand.of_body B
    have hh0 : s₁.heap = s.heap := by rw [B.state]; rfl
    have hsz : scr.slots.size = xs.length := by rw [← Array.length_toList, hlist, List.length_map]
    have hval : ∀ j : Nat, j < xs.length → scr.slots[j]? = some (.int (xs.getD j 0)) := fun j hj => by
      rw [← Array.getElem?_toList, hlist]
      simp [hj]
    have hbl : b < s.heap.size := (Array.getElem?_eq_some_iff.mp hcb).1
    have hX : va_X b xs.length (fun j => xs.getD j 0) s s.heap := ⟨scr, hcb, hof, hkn, hsz, hval⟩
    have K : W p l e room_1 s m #[Value.ref b] below meth c s₁.heap [] 0 0 (lw_Z below #[Value.ref b] s) (entryFrame m ([Value.ref b] : List Value).toArray 6) := by
      rw [hh0]
      exact whole_start l hflags hbd ⟨B.exec, B.bytes, B.returns, hml, hown, hts, hX, hbl, B.notSynchronized, hgv⟩
    obtain ⟨t, a1, o, b1, b2, b3⟩ := K s₁ rfl X₀
    exact ⟨t, o, a1, b1, b2, b3⟩
theorem lw_pre_spec {args : Array Value} {s : State} (h : (Jvm.Cond.and given_1 narrow_1).before args s = true) (hr : rest_1_c.before args s = true) : ∃ (b : Addr) (xs : List Int32), lw_P b xs args s := by
  have hs := flat_of_before _ h
  have hq := flat_of_before _ hr
  have hc : (Cond.count 1).before args s = true := hs _ (by decide +kernel)
  have harr : (Cond.arrayOf (.arg 0) .int).before args s = true := hs _ (by decide +kernel)
  have hle : (Cond.le (.length (.arg 0)) (.int 260)).before args s = true := hs _ (by decide +kernel)
  have hlen : (Cond.isInt (.length (.arg 0))).before args s = true := hq _ (by decide +kernel)
  have hall : (Cond.all (.arg 0) (.isInt (.elem (.arg 0) (.index 0)))).before args s = true := hq _ (by decide +kernel)
  obtain ⟨b, xs, hb, hx⟩ := State.ints_of_pre rfl harr hlen hall
  have hsm : xs.length < 2 ^ 31 := hx.choose_spec.2.2.2
  have hev : (Term.length (.arg 0)).eval args s none [] s = some (.int xs.length.toInt32) := hx.length_eval hb
  have hv := Cond.le_ints hev (show (Term.int 260).eval args s none [] s = some (.int 260) from rfl)
  have hd : xs.length.toInt32 ≤ 260 := by
    simpa [Cond.before, Cond.holds, hv] using hle
  have hN : xs.length ≤ 260 := (Int32.ofNat_le_ofNat hsm (by decide)).mp (show Int32.ofNat xs.length ≤ Int32.ofNat 260 from hd)
  exact ⟨b, xs, Cond.one_arg hc (show args[0]? = some (.ref b) from hb), hx, hN, h⟩
theorem lw_comes (l : Launch) (hflags : l.flags = flags0) : Comes l x (Jvm.Cond.code x code maxLocals ret :: tables_1) room_1 (fun tb e args s => Calls_1 tb e args s ∧ rest_1 tb e args s ∧ Pre_1 tb e args s)
    (fun _ _ args s o t => lw_Q args s o t) := by
  intro p e ha hc hk s m args below hf hfit hheap happ hpre
  obtain ⟨b, xs, hP⟩ := lw_pre_spec hpre.2.2 hpre.2.1
  obtain ⟨k, o, h1, h2, h3, hQ⟩ := lw_walk l hflags b xs p e ha hc hk s m args below hf ((Spec.applies_iff_loose hf).mp happ).1 hP trivial
  exact ⟨k, o, h1, h2, h3, hQ⟩
theorem lw_frame {s t : State} {o : Outcome} {args : Array Value} (h : State.butDraws s t lw_cs (fun t1 => Framed s o t1 [] 600086 7301442)) :
    State.butDraws s t [Jvm.Choice.named "NaN.bits"] (fun t1 => Framed s o t1 (fieldLocs frame_1_writes args s ++ arrayLocs frame_1_arrays args s ++ staticLocs frame_1_statics s) 600086 7301442) := h
theorem lw_limb (L : Cond) (hL : ∀ (args : Array Value) (s t : State), L.after args s (.returned (some (.int 1))) t = true) :
    ArmFor flags0 classFile x code maxLocals ret World_1 tables_1 room_1 Calls_1 rest_1 Pre_1
      (fun tb e a s o t => postC L tb e a s o t ∧ State.butDraws s t [Jvm.Choice.named "NaN.bits"] (fun t1 => Framed s o t1 (fieldLocs frame_1_writes a s ++ arrayLocs frame_1_arrays a s ++ staticLocs frame_1_statics s) 600086 7301442)) := by
  intro l hflags _ _ p e ha hc hk s m args below hf hfit hheap happ hpre
  obtain ⟨k, o, h1, h2, h3, rfl, hF⟩ := lw_comes l hflags p e ha hc hk s m args below hf hfit hheap happ hpre
  exact ⟨k, _, h1, h2, h3, hL args s _, lw_frame hF⟩
theorem i_vc : Claimed_1_1 ∧ Claimed_1_2 := ⟨lw_limb limb_1_1 (fun args s t => by simp [limb_1_1, Cond.after, Cond.holds, Cond.value]), lw_limb limb_1_2 (fun args s t => Cond.after_iff.mpr (by
  first | (rw [show limb_1_2 = Cond.eq .result (.int 1) from rfl, Cond.eq_ints (x := 1) (y := 1) rfl rfl]; simp; done) | (simp [limb_1_2, Cond.value, Term.eval]; done)))⟩
