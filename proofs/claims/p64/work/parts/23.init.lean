/-! the law's chain is made: its rows, grids and text -/
def lV (n : Nat) : List Nat := [108, 109, 210, 211] ++ List.range' 110 (n - 110)
theorem lV_mem {n o : Nat} (h : o ∈ lV n) : o = 108 ∨ o = 109 ∨ o = 210 ∨ o = 211 ∨ (110 ≤ o ∧ o < n) := by
  rcases List.mem_append.mp h with h | h
  · simp only [List.mem_cons, List.not_mem_nil, or_false] at h
    omega
  · have := List.mem_range'_1.mp h
    omega
theorem mem_lV {n o : Nat} (h : o = 108 ∨ o = 109 ∨ o = 210 ∨ o = 211 ∨ (110 ≤ o ∧ o < n)) : o ∈ lV n := by
  rcases h with h | h | h | h | h
  · exact List.mem_append_left _ (by simp [h])
  · exact List.mem_append_left _ (by simp [h])
  · exact List.mem_append_left _ (by simp [h])
  · exact List.mem_append_left _ (by simp [h])
  · exact List.mem_append_right _ (List.mem_range'_1.mpr (by omega))
theorem lV_nd {n : Nat} (hn : n ≤ 210) : (lV n).Nodup := by
  refine List.nodup_append.mpr ⟨by decide, List.nodup_range', fun a ha b hb e => ?_⟩
  have := List.mem_range'_1.mp hb
  simp only [List.mem_cons, List.not_mem_nil, or_false] at ha
  omega
theorem lV_add {n : Nat} (N : Nat) (hn : 110 ≤ n) : lV n ++ List.range' n N = lV (n + N) := by
  unfold lV
  rw [List.append_assoc]
  congr 1
  have h := List.range'_append (s := 110) (m := n - 110) (n := N) (step := 1)
  rw [Nat.one_mul, show 110 + (n - 110) = n by omega] at h
  rw [h]
  congr 1
  omega
theorem lV_1 {n : Nat} (hn : 110 ≤ n) : lV n ++ [n] = lV (n + 1) := lV_add 1 hn
theorem lV_210 : lV 210 = lL := rfl
theorem lV_sub {n : Nat} : ∀ o, o ∈ [108, 109] → o ∈ lV n := fun o h => List.mem_append_left _ (by simp only [List.mem_cons, List.not_mem_nil, or_false] at h ⊢; omega)
def ZV (n : Nat) (M : Mem) : Prop := (∀ o, n ≤ o → o < 210 → zeroM o M) ∧ (∀ o k j, gR M o k = some j → j < n ∨ j = 210 ∨ j = 211 ∨ j = 999) ∧ ∀ o k, gR M o k = some 211 → o = 210 ∧ k = 0
theorem ZV.mono {n m : Nat} {M : Mem} (h : ZV n M) (hn : n ≤ m) : ZV m M := ⟨fun o ho => h.1 o (Nat.le_trans hn ho), fun o k j hj => (h.2.1 o k j hj).imp (fun z => Nat.lt_of_lt_of_le z hn) id, h.2.2⟩
theorem ZV.rr {n : Nat} {M : Mem} (h : ZV n M) (hn : n ≤ 210) : RR M := ⟨h.2.2, fun o k hk => by
  have := h.2.1 o k 300 hk
  omega⟩
theorem ZV.sI {n o k : Nat} {v : Int32} {M : Mem} (h : ZV n M) (ho : o < n) : ZV n (sI M o k v) := by
  refine ⟨fun a ha h8 => ⟨fun b => ?_, fun b => (h.1 a ha h8).2.1 b, fun b => (h.1 a ha h8).2.2 b⟩, h.2⟩
  rw [gI_sI, if_neg (fun z => by omega)]
  exact (h.1 a ha h8).1 b
theorem ZV.sR {n o k j : Nat} {M : Mem} (h : ZV n M) (ho : o < n) (hj : j < n ∨ j = 210) (hn : n ≤ 211) : ZV n (sR M o k (some j)) := by
  refine ⟨fun a ha h8 => ⟨fun b => (h.1 a ha h8).1 b, fun b => (h.1 a ha h8).2.1 b, fun b => ?_⟩, fun a b i hi => ?_, fun a b hi => ?_⟩
  · rw [gR_sR, if_neg (fun z => by omega)]
    exact (h.1 a ha h8).2.2 b
  · rw [gR_sR] at hi
    split at hi
    · cases hi
      omega
    · exact h.2.1 a b i hi
  · rw [gR_sR] at hi
    split at hi
    · have := Option.some.inj hi
      omega
    · exact h.2.2 a b hi
theorem ZV.nz {n : Nat} {M : Mem} (h : ZV n M) (h0 : 110 ≤ n) (hn : n < 210) : NZ n (lV n) M := by
  refine ⟨⟨fun z => ?_, by omega⟩, h.1 n (Nat.le_refl _) hn, fun o _ k z => ?_⟩
  · have := lV_mem z
    omega
  · have := h.2.1 o k n z
    omega
theorem gm2_R {M : Mem} {base o k : Nat} : gR (gm2 M base) o k = if o = base then (if k < 6 then some (base + 1 + k) else none) else gR M o k := rfl
theorem gm3_R {M : Mem} {base o k : Nat} : gR (gm3 M base) o k = if o = base then (if k < 6 then some (base + 1 + 4 * k) else none) else if base < o ∧ o < base + 25 ∧ (o - base) % 4 = 1 then (if k < 3 then some (o + 1 + k) else none) else gR M o k := rfl
theorem ZV.g2 {n : Nat} {M : Mem} (h : ZV n M) (hn : n + 7 ≤ 210) : ZV (n + 7) (gm2 M n) := by
  refine ⟨fun o ho h8 => ⟨fun b => (h.1 o (by omega) h8).1 b, fun b => (h.1 o (by omega) h8).2.1 b, fun b => ?_⟩, fun o k j hj => ?_, fun o k hj => ?_⟩
  · rw [gm2_R, if_neg (by omega)]
    exact (h.1 o (by omega) h8).2.2 b
  · rw [gm2_R] at hj
    split at hj
    · split at hj
      · have := Option.some.inj hj
        omega
      · exact nomatch hj
    · have := h.2.1 o k j hj
      omega
  · rw [gm2_R] at hj
    split at hj
    · split at hj
      · have := Option.some.inj hj
        omega
      · exact nomatch hj
    · exact h.2.2 o k hj
theorem ZV.g3 {n : Nat} {M : Mem} (h : ZV n M) (hn : n + 25 ≤ 210) : ZV (n + 25) (gm3 M n) := by
  refine ⟨fun o ho h8 => ⟨fun b => (h.1 o (by omega) h8).1 b, fun b => (h.1 o (by omega) h8).2.1 b, fun b => ?_⟩, fun o k j hj => ?_, fun o k hj => ?_⟩
  · rw [gm3_R, if_neg (by omega), if_neg (by omega)]
    exact (h.1 o (by omega) h8).2.2 b
  · rw [gm3_R] at hj
    split at hj
    · split at hj
      · have := Option.some.inj hj
        omega
      · exact nomatch hj
    · split at hj
      · split at hj
        · have := Option.some.inj hj
          omega
        · exact nomatch hj
      · have := h.2.1 o k j hj
        omega
  · rw [gm3_R] at hj
    split at hj
    · split at hj
      · have := Option.some.inj hj
        omega
      · exact nomatch hj
    · split at hj
      · split at hj
        · have := Option.some.inj hj
          omega
        · exact nomatch hj
      · exact h.2.2 o k hj
theorem ZV.gz2 {n : Nat} {M : Mem} (h : ZV n M) (h0 : 110 ≤ n) (hn : n + 7 ≤ 210) : GZ n 7 (lV n) M (gm2 M n) := by
  refine ⟨fun i hi => ⟨fun z => ?_, by omega, by omega⟩, rfl, rfl, fun o ho k => ?_, fun o _ k i hi z => ?_⟩
  · have := lV_mem z
    omega
  · have := lV_mem ho
    rw [gm2_R, if_neg (by omega)]
  · have := h.2.1 o k _ z
    omega
theorem ZV.gz3 {n : Nat} {M : Mem} (h : ZV n M) (h0 : 110 ≤ n) (hn : n + 25 ≤ 210) : GZ n 25 (lV n) M (gm3 M n) := by
  refine ⟨fun i hi => ⟨fun z => ?_, by omega, by omega⟩, rfl, rfl, fun o ho k => ?_, fun o _ k i hi z => ?_⟩
  · have := lV_mem z
    omega
  · have := lV_mem ho
    rw [gm3_R, if_neg (by omega), if_neg (by omega)]
  · have := h.2.1 o k _ z
    omega
theorem ov {Γ : WC} {K : Mem → Prop} {ad : Nat → Nat} {n o : Nat} {e : SE} (ho : o = 108 ∨ o = 109 ∨ o = 210 ∨ o = 211 ∨ (110 ≤ o ∧ o < n)) (hn : n ≤ 210) (he : SHF o = some e) : On (gc Γ K ad (lV n)) o e := og (lV_nd hn) (mem_lV ho) he
theorem svv {n : Nat} {L : List (Option SV)} (hL : L.all (fun o => match o with
  | some (.inr o) => o == 210 || o == 108 || o == 109
  | _ => true) = true) : svL (lV n) L := fun v hv => by
  have := List.all_eq_true.mp hL (some v) hv
  cases v with
  | inl v => trivial
  | inr o =>
    have e : (o = 210 ∨ o = 108) ∨ o = 109 := by simpa using this
    exact ⟨Or.inl (mem_lV (by omega)), by omega⟩
theorem svw {n : Nat} {L : List SV} (hL : L.all (fun o => match o with
  | .inr o => o == 210 || o == 108 || o == 109
  | _ => true) = true) : svS (lV n) L := fun v hv => by
  have := List.all_eq_true.mp hL v hv
  cases v with
  | inl v => trivial
  | inr o =>
    have e : (o = 210 ∨ o = 108) ∨ o = 109 := by simpa using this
    exact ⟨Or.inl (mem_lV (by omega)), by omega⟩
theorem sv12 {l : List Nat} (h1 : 108 ∈ l) (h2 : 109 ∈ l) {L : List (Option SV)} (hL : L.all (fun o => match o with
  | some (.inr o) => o == 108 || o == 109
  | _ => true) = true) : svL l L := fun v hv => by
  have := List.all_eq_true.mp hL (some v) hv
  cases v with
  | inl v => trivial
  | inr o =>
    have e : o = 108 ∨ o = 109 := by simpa using this
    rcases e with rfl | rfl
    · exact ⟨Or.inl h1, by decide⟩
    · exact ⟨Or.inl h2, by decide⟩
theorem sw12 {l : List Nat} (h1 : 108 ∈ l) (h2 : 109 ∈ l) (h3 : 210 ∈ l ∨ True) {L : List SV} (hL : L.all (fun o => match o with
  | .inr o => o == 108 || o == 109
  | _ => true) = true) : svS l L := fun v hv => by
  have := List.all_eq_true.mp hL v hv
  cases v with
  | inl v => trivial
  | inr o =>
    have e : o = 108 ∨ o = 109 := by simpa using this
    rcases e with rfl | rfl
    · exact ⟨Or.inl h1, by decide⟩
    · exact ⟨Or.inl h2, by decide⟩
/-- before the chain is made: all is zero but the draws -/
def ZE (M : Mem) : Prop := (∀ o, o ≠ 108 → zeroM o M) ∧ (∀ o k j, gR M o k = some j → o = 108 ∧ k = 0 ∧ j = 999) ∧ gR M 108 0 = some 999
def KE (M : Mem) : Prop := ∀ o k j, gR M o k = some j → j = 999
theorem krE : KR KE := fun M M' h hM o k j hj => hM o k j (by rw [← h]; exact hj)
def KS (M : Mem) : Prop := gR M 210 0 = some 211 ∧ RR M
theorem krS : KR KS := fun M M' h hM => ⟨by rw [h]; exact hM.1, ⟨fun o k hk => hM.2.1 o k (by rw [← h]; exact hk), fun o k hk => hM.2.2 o k (by rw [← h]; exact hk)⟩⟩
theorem lbS : LB KS ([108, 109, 210] ++ [211]) := ⟨⟨⟨by decide, by decide, by decide⟩, by decide⟩, krS, fun _ h => h⟩
theorem keS : ∀ M, KE M → KS (sR M 210 0 (some 211)) := fun M h => ⟨rfl, ⟨fun o k hk => by
  rw [gR_sR] at hk
  split at hk
  · assumption
  · exact absurd (h o k 211 hk) (by decide), fun o k hk => by
  rw [gR_sR] at hk
  split at hk
  · exact absurd (Option.some.inj hk) (by decide)
  · exact absurd (h o k 300 hk) (by decide)⟩⟩
theorem apM_nI {M : Mem} {bs : List Nat} {o k : Nat} (h0 : o ≠ 210) (h1 : o ≠ 211) (h3 : o ≠ 300) : gI (apM M bs) o k = gI M o k := by
  unfold apM
  rw [gI_sI, if_neg (fun z => h0 z.1), putT_ne h1, growM_ne h1 h3]
theorem apM_nL {M : Mem} {bs : List Nat} {o k : Nat} (h1 : o ≠ 211) (h3 : o ≠ 300) : gL (apM M bs) o k = gL M o k := growM_nL h1 h3
theorem apM_R {M : Mem} {bs : List Nat} {o k : Nat} : gR (apM M bs) o k = gR M o k := growM_R
/-- the memory behind the first text -/
def mN (M : Mem) : Mem := apM (nbM M) (WL.getD 10 [])
theorem ZE.sb {M : Mem} (h : ZE M) : ∃ m, SBM (mN M) 13 m := (nbM_sb (h.1 210 (by decide)) (h.1 211 (by decide)) (h.1 300 (by decide))).app (bs := WL.getD 10 []) (wl_b 10 (by decide)) (by decide)
theorem mN_R {M : Mem} {o k : Nat} : gR (mN M) o k = if o = 210 ∧ k = 0 then some 211 else gR M o k := by
  unfold mN
  rw [apM_R]
  rfl
theorem ZE.zv {M : Mem} (h : ZE M) : ZV 110 (mN M) := by
  refine ⟨fun o ho h8 => ⟨fun k => ?_, fun k => ?_, fun k => ?_⟩, fun o k j hj => ?_, fun o k hj => ?_⟩
  · unfold mN
    rw [apM_nI (by omega) (by omega) (by omega)]
    show gI (sI M 210 1 0) o k = 0
    rw [gI_sI, if_neg (by omega)]
    exact (h.1 o (by omega)).1 k
  · unfold mN
    rw [apM_nL (by omega) (by omega)]
    show gL (sL (sI M 210 1 0) 211 0 (lN 29)) o k = 0
    rw [gL_sL, if_neg (by omega)]
    exact (h.1 o (by omega)).2.1 k
  · rw [mN_R, if_neg (by omega)]
    exact (h.1 o (by omega)).2.2 k
  · rw [mN_R] at hj
    split at hj
    · have := Option.some.inj hj
      omega
    · have := h.2.1 o k j hj
      omega
  · rw [mN_R] at hj
    split at hj
    · assumption
    · have := h.2.1 o k 211 hj
      omega
theorem x_putFIk {Γ : WC} {X : MX} {M : Mem} {cs sl : Nat} {L : List (Option Value)} {st : List Value} {pc : Nat} {cc : ByteArray} {nL : Nat} {own : String} {ret : Option FieldType} {R0 : Room} {β : Type} {rM : β} (C : CX Γ X cc nL own ret R0) (hinit : XI X) {o n idx ci k : Nat} {v : Int32} {kk : Mem → Option β} {ok : Value → Prop} (lk : FPk own idx ci k 0 true ok) (hok : ok (.int v)) (hs : On Γ o (ci + 6, n)) (d : decode cc pc = .ok (.putfield idx, 3)) (q : Nat) (hq : pc + 3 = q) (hf : bd (sI M o k v) kk = some rM) (K : ∀ M1, kk M1 = some rM → G Γ X M1 cs sl L st q) : G Γ X M cs sl L (.int v :: .ref (wad Γ o) :: st) pc := x_putFI C hinit lk hok hs d q hq (K _ hf)
theorem dv_vret2 {Γ : WC} {X : MX} {M : Mem} {cs sl mc ms : Nat} {L : List (Option Value)} {pc : Nat} {cc : ByteArray} {nL : Nat} {own : String} {R0 : Room} {K9 : Mem → Prop} {ad0 ad : Nat → Nat} {l0 l : List Nat} {rM : Unit × Mem} (C : CX Γ X cc nL own none R0) (E : EndD Γ K9 X ad0 l0 l none rM.2 mc ms) (hag : agr l0 ad0 ad) (hf : some ((), M) = some rM) (hc : cs ≤ mc) (hs : sl ≤ ms) (d : decode cc pc = .ok (.return_, 1)) : G (gc Γ K9 ad l) X M cs sl L [] pc := by
  cases hf
  exact d_vret C E hag (fun h => h) hc hs d
theorem lk_RX12_20 : FLk RX12 20 12 6 2 := ⟨_, _, _, rc12, by decide, by decide +kernel, uw12, gd 741 (by decide +kernel) rfl⟩
theorem lk_RX12_70 : FLk RX12 70 12 3 0 := ⟨_, _, _, rc12, by decide, by decide +kernel, uw12, gd 735 (by decide +kernel) rfl⟩
theorem lk_RX12_73 : FLk RX12 73 12 4 0 := ⟨_, _, _, rc12, by decide, by decide +kernel, uw12, gd 737 (by decide +kernel) rfl⟩
theorem lk_RX12_100 : FLk RX12 100 12 5 0 := ⟨_, _, _, rc12, by decide, by decide +kernel, uw12, gd 739 (by decide +kernel) rfl⟩
theorem pk_RX12_51 : FPk RX12 51 12 14 0 false (fun v => ∃ x, v = .int x) := ⟨_, _, _, tyX12, rc12, by decide, by decide +kernel, uw12, gd 754 (by decide +kernel) rfl, rfl, (fun h => nomatch h), tyX12_ok, nmX12, (fun v h => by obtain ⟨x, rfl⟩ := h; exact ⟨rfl, rfl⟩)⟩
theorem pk_RX12_70 : FPk RX12 70 12 3 0 false (fun v => ∃ x, v = .int x) := ⟨_, _, _, tyX12, rc12, by decide, by decide +kernel, uw12, gd 735 (by decide +kernel) rfl, rfl, (fun h => nomatch h), tyX12_ok, nmX12, (fun v h => by obtain ⟨x, rfl⟩ := h; exact ⟨rfl, rfl⟩)⟩
theorem pk_RX12_73 : FPk RX12 73 12 4 0 false (fun v => ∃ x, v = .int x) := ⟨_, _, _, tyX12, rc12, by decide, by decide +kernel, uw12, gd 737 (by decide +kernel) rfl, rfl, (fun h => nomatch h), tyX12_ok, nmX12, (fun v h => by obtain ⟨x, rfl⟩ := h; exact ⟨rfl, rfl⟩)⟩
theorem pk_RX12_100 : FPk RX12 100 12 5 0 false (fun v => ∃ x, v = .int x) := ⟨_, _, _, tyX12, rc12, by decide, by decide +kernel, uw12, gd 739 (by decide +kernel) rfl, rfl, (fun h => nomatch h), tyX12_ok, nmX12, (fun v h => by obtain ⟨x, rfl⟩ := h; exact ⟨rfl, rfl⟩)⟩
theorem pkf_RX12_14 : FPk RX12 14 12 0 2 true (fun v => ∃ a, v = .ref a) := ⟨_, _, _, tyX12, rc12, by decide, by decide +kernel, uw12, gd 729 (by decide +kernel) rfl, rfl, (fun _ => rfl), tyX12_ok, nmX12, (fun v h => by obtain ⟨x, rfl⟩ := h; exact ⟨rfl, rfl⟩)⟩
theorem pkf_RX12_20 : FPk RX12 20 12 6 2 true (fun v => ∃ a, v = .ref a) := ⟨_, _, _, tyX12, rc12, by decide, by decide +kernel, uw12, gd 741 (by decide +kernel) rfl, rfl, (fun _ => rfl), tyX12_ok, nmX12, (fun v h => by obtain ⟨x, rfl⟩ := h; exact ⟨rfl, rfl⟩)⟩
theorem pkf_RX12_24 : FPk RX12 24 12 7 2 true (fun v => ∃ a, v = .ref a) := ⟨_, _, _, tyX12, rc12, by decide, by decide +kernel, uw12, gd 743 (by decide +kernel) rfl, rfl, (fun _ => rfl), tyX12_ok, nmX12, (fun v h => by obtain ⟨x, rfl⟩ := h; exact ⟨rfl, rfl⟩)⟩
theorem pkf_RX12_29 : FPk RX12 29 12 8 2 true (fun v => ∃ a, v = .ref a) := ⟨_, _, _, tyX12, rc12, by decide, by decide +kernel, uw12, gd 745 (by decide +kernel) rfl, rfl, (fun _ => rfl), tyX12_ok, nmX12, (fun v h => by obtain ⟨x, rfl⟩ := h; exact ⟨rfl, rfl⟩)⟩
theorem pkf_RX12_32 : FPk RX12 32 12 9 2 true (fun v => ∃ a, v = .ref a) := ⟨_, _, _, tyX12, rc12, by decide, by decide +kernel, uw12, gd 747 (by decide +kernel) rfl, rfl, (fun _ => rfl), tyX12_ok, nmX12, (fun v h => by obtain ⟨x, rfl⟩ := h; exact ⟨rfl, rfl⟩)⟩
theorem pkf_RX12_37 : FPk RX12 37 12 10 2 true (fun v => ∃ a, v = .ref a) := ⟨_, _, _, tyX12, rc12, by decide, by decide +kernel, uw12, gd 749 (by decide +kernel) rfl, rfl, (fun _ => rfl), tyX12_ok, nmX12, (fun v h => by obtain ⟨x, rfl⟩ := h; exact ⟨rfl, rfl⟩)⟩
theorem pkf_RX12_40 : FPk RX12 40 12 11 2 true (fun v => ∃ a, v = .ref a) := ⟨_, _, _, tyX12, rc12, by decide, by decide +kernel, uw12, gd 750 (by decide +kernel) rfl, rfl, (fun _ => rfl), tyX12_ok, nmX12, (fun v h => by obtain ⟨x, rfl⟩ := h; exact ⟨rfl, rfl⟩)⟩
theorem pkf_RX12_43 : FPk RX12 43 12 12 2 true (fun v => ∃ a, v = .ref a) := ⟨_, _, _, tyX12, rc12, by decide, by decide +kernel, uw12, gd 751 (by decide +kernel) rfl, rfl, (fun _ => rfl), tyX12_ok, nmX12, (fun v h => by obtain ⟨x, rfl⟩ := h; exact ⟨rfl, rfl⟩)⟩
theorem pkf_RX12_48 : FPk RX12 48 12 13 2 true (fun v => ∃ a, v = .ref a) := ⟨_, _, _, tyX12, rc12, by decide, by decide +kernel, uw12, gd 752 (by decide +kernel) rfl, rfl, (fun _ => rfl), tyX12_ok, nmX12, (fun v h => by obtain ⟨x, rfl⟩ := h; exact ⟨rfl, rfl⟩)⟩
theorem pkf_RX12_55 : FPk RX12 55 12 15 2 true (fun v => ∃ a, v = .ref a) := ⟨_, _, _, tyX12, rc12, by decide, by decide +kernel, uw12, gd 756 (by decide +kernel) rfl, rfl, (fun _ => rfl), tyX12_ok, nmX12, (fun v h => by obtain ⟨x, rfl⟩ := h; exact ⟨rfl, rfl⟩)⟩
theorem pkf_RX12_58 : FPk RX12 58 12 16 2 true (fun v => ∃ a, v = .ref a) := ⟨_, _, _, tyX12, rc12, by decide, by decide +kernel, uw12, gd 758 (by decide +kernel) rfl, rfl, (fun _ => rfl), tyX12_ok, nmX12, (fun v h => by obtain ⟨x, rfl⟩ := h; exact ⟨rfl, rfl⟩)⟩
theorem pkf_RX12_67 : FPk RX12 67 12 1 0 true (fun v => ∃ x, v = .int x) := ⟨_, _, _, tyX12, rc12, by decide, by decide +kernel, uw12, gd 731 (by decide +kernel) rfl, rfl, (fun _ => rfl), tyX12_ok, nmX12, (fun v h => by obtain ⟨x, rfl⟩ := h; exact ⟨rfl, rfl⟩)⟩
theorem pkf_RX12_87 : FPk RX12 87 12 2 0 true (fun v => ∃ x, v = .int x) := ⟨_, _, _, tyX12, rc12, by decide, by decide +kernel, uw12, gd 733 (by decide +kernel) rfl, rfl, (fun _ => rfl), tyX12_ok, nmX12, (fun v h => by obtain ⟨x, rfl⟩ := h; exact ⟨rfl, rfl⟩)⟩
theorem ln_RX12_92 : Gd (.methodLink RX12 92 yX12_act) := gd 689 (by decide +kernel) rfl
theorem ln_RX12_96 : Gd (.methodLink RX12 96 yX12_rule) := gd 723 (by decide +kernel) rfl
theorem mw_X12_act : MW yX12_act cX12_act 10 none 3 := ⟨gd 48 (by decide +kernel) rfl, gd 692 (by decide +kernel) rfl, ⟨by decide, by decide⟩, by decide +kernel⟩
theorem mw_X12_rule : MW yX12_rule cX12_rule 4 none 2 := ⟨gd 48 (by decide +kernel) rfl, gd 726 (by decide +kernel) rfl, ⟨by decide, by decide⟩, by decide +kernel⟩
theorem mi_X12_act : (Gd (.instanceMethod yX12_act) ∧ Gd (.selects yX12_act.cls yX12_act yX12_act)) := ⟨gd 691 (by decide +kernel) rfl, gd 0 (by decide +kernel) rfl⟩
theorem mi_X12_rule : (Gd (.instanceMethod yX12_rule) ∧ Gd (.selects yX12_rule.cls yX12_rule yX12_rule)) := ⟨gd 725 (by decide +kernel) rfl, gd 1 (by decide +kernel) rfl⟩
theorem lo_RX12_1 : Gd (.methodLink RX12 1 objectInit) := gd 490 (by decide +kernel) rfl
theorem kl_RX12_7 : Gd (.classLink RX12 7 RJ4) := gd 491 (by decide +kernel) rfl
theorem ki_15 : Gd (.instantiable RJ4 4) := gd 492 (by decide +kernel) rfl
theorem kn_15 : Gd (.initialized RJ4) := gd 50 (by decide +kernel) rfl
theorem kd_15 : ∀ k, k < 4 → defaultValue (tyJ4 k) = zV (kFd 15 k) := by decide +kernel
theorem ln_RX12_11 : Gd (.methodLink RX12 11 yJ4_init_a7421) := gd 494 (by decide +kernel) rfl
theorem kq_RX12_27 : Gd (.classLink RX12 27 "[[I") := gd 649 (by decide +kernel) rfl
theorem kq_RX12_35 : Gd (.classLink RX12 35 "[[[I") := gd 651 (by decide +kernel) rfl
theorem kq_RX12_46 : Gd (.classLink RX12 46 "[[Z") := gd 653 (by decide +kernel) rfl
def mI0 (M : Mem) : Mem := mN M
theorem mI0_z {M : Mem} (h : ZE M) : ZV 110 (mI0 M) := h.zv
def mI1 (M : Mem) : Mem := sR (mI0 M) 109 0 (some 210)
theorem mI1_z {M : Mem} (h : ZE M) : ZV 110 (mI1 M) := (((mI0_z h)).mono (by decide)).sR (by decide) (Or.inr rfl) (by decide)
def mI2 (M : Mem) : Mem := sR (mI1 M) 109 6 (some 110)
theorem mI2_z {M : Mem} (h : ZE M) : ZV 111 (mI2 M) := (((mI1_z h)).mono (by decide)).sR (by decide) (Or.inl (by decide)) (by decide)
def mI3 (M : Mem) : Mem := sR (mI2 M) 109 7 (some 111)
theorem mI3_z {M : Mem} (h : ZE M) : ZV 112 (mI3 M) := (((mI2_z h)).mono (by decide)).sR (by decide) (Or.inl (by decide)) (by decide)
def mI4 (M : Mem) : Mem := gm2 (mI3 M) 112
theorem mI4_z {M : Mem} (h : ZE M) : ZV 119 (mI4 M) := ((mI3_z h)).g2 (by decide)
def mI5 (M : Mem) : Mem := sR (mI4 M) 109 8 (some 112)
theorem mI5_z {M : Mem} (h : ZE M) : ZV 119 (mI5 M) := (((mI4_z h)).mono (by decide)).sR (by decide) (Or.inl (by decide)) (by decide)
def mI6 (M : Mem) : Mem := gm2 (mI5 M) 119
theorem mI6_z {M : Mem} (h : ZE M) : ZV 126 (mI6 M) := ((mI5_z h)).g2 (by decide)
def mI7 (M : Mem) : Mem := sR (mI6 M) 109 9 (some 119)
theorem mI7_z {M : Mem} (h : ZE M) : ZV 126 (mI7 M) := (((mI6_z h)).mono (by decide)).sR (by decide) (Or.inl (by decide)) (by decide)
def mI8 (M : Mem) : Mem := gm3 (mI7 M) 126
theorem mI8_z {M : Mem} (h : ZE M) : ZV 151 (mI8 M) := ((mI7_z h)).g3 (by decide)
def mI9 (M : Mem) : Mem := sR (mI8 M) 109 10 (some 126)
theorem mI9_z {M : Mem} (h : ZE M) : ZV 151 (mI9 M) := (((mI8_z h)).mono (by decide)).sR (by decide) (Or.inl (by decide)) (by decide)
def mI10 (M : Mem) : Mem := gm3 (mI9 M) 151
theorem mI10_z {M : Mem} (h : ZE M) : ZV 176 (mI10 M) := ((mI9_z h)).g3 (by decide)
def mI11 (M : Mem) : Mem := sR (mI10 M) 109 11 (some 151)
theorem mI11_z {M : Mem} (h : ZE M) : ZV 176 (mI11 M) := (((mI10_z h)).mono (by decide)).sR (by decide) (Or.inl (by decide)) (by decide)
def mI12 (M : Mem) : Mem := gm3 (mI11 M) 176
theorem mI12_z {M : Mem} (h : ZE M) : ZV 201 (mI12 M) := ((mI11_z h)).g3 (by decide)
def mI13 (M : Mem) : Mem := sR (mI12 M) 109 12 (some 176)
theorem mI13_z {M : Mem} (h : ZE M) : ZV 201 (mI13 M) := (((mI12_z h)).mono (by decide)).sR (by decide) (Or.inl (by decide)) (by decide)
def mI14 (M : Mem) : Mem := gm2 (mI13 M) 201
theorem mI14_z {M : Mem} (h : ZE M) : ZV 208 (mI14 M) := ((mI13_z h)).g2 (by decide)
def mI15 (M : Mem) : Mem := sR (mI14 M) 109 13 (some 201)
theorem mI15_z {M : Mem} (h : ZE M) : ZV 208 (mI15 M) := (((mI14_z h)).mono (by decide)).sR (by decide) (Or.inl (by decide)) (by decide)
def mI16 (M : Mem) : Mem := sI (mI15 M) 109 14 (-1 : Int32)
theorem mI16_z {M : Mem} (h : ZE M) : ZV 208 (mI16 M) := (((mI15_z h)).mono (by decide)).sI (by decide)
def mI17 (M : Mem) : Mem := sR (mI16 M) 109 15 (some 208)
theorem mI17_z {M : Mem} (h : ZE M) : ZV 209 (mI17 M) := (((mI16_z h)).mono (by decide)).sR (by decide) (Or.inl (by decide)) (by decide)
def mI18 (M : Mem) : Mem := sR (mI17 M) 109 16 (some 209)
theorem mI18_z {M : Mem} (h : ZE M) : ZV 210 (mI18 M) := (((mI17_z h)).mono (by decide)).sR (by decide) (Or.inl (by decide)) (by decide)
def mH (M : Mem) : Mem := (mI18 M)
theorem mH_z {M : Mem} (h : ZE M) : ZV 210 (mH M) := (mI18_z h)
theorem mH_R {M : Mem} (h : ZE M) : SRV (mH M) := by
  have h9 := h.2.2
  refine ⟨fun o k j hj => ?_, ?_, (mH_z h).rr (by decide)⟩
  · unfold srV at hj
    split at hj <;> first | (cases hj; done) | (cases hj; simp only [mH, mI18, mI17, mI16, mI15, mI14, mI13, mI12, mI11, mI10, mI9, mI8, mI7, mI6, mI5, mI4, mI3, mI2, mI1, mI0, gR_sR, gR_sI, gm2_R, gm3_R, mN_R]; simp [h9])
  · simp only [mH, mI18, mI17, mI16, mI15, mI14, mI13, mI12, mI11, mI10, mI9, mI8, mI7, mI6, mI5, mI4, mI3, mI2, mI1, mI0, gR_sR, gR_sI, gm2_R, gm3_R, mN_R]
    simp
theorem mzK_ii {Γ : WC} (hQ : HQ Γ) : mzK (wU Γ).vm .int [wA Γ 6, wA Γ 0] [6, 3] := by
  obtain ⟨⟨⟨k, h1, h2⟩, _⟩, _, _, h4, _⟩ := hQ
  exact ⟨⟨by decide, by decide⟩, ⟨k, _, h1, h2, rfl⟩, ⟨by decide, by decide⟩, h4⟩
theorem mzK_zz {Γ : WC} (hQ : HQ Γ) : mzK (wU Γ).vm .boolean [wA Γ 8, wA Γ 3] [6, 3] := by
  obtain ⟨_, _, ⟨⟨k, h1, h2⟩, _⟩, _, h5⟩ := hQ
  exact ⟨⟨by decide, by decide⟩, ⟨k, _, h1, h2, rfl⟩, ⟨by decide, by decide⟩, h5⟩
theorem mzK_iii {Γ : WC} (hQ : HQ Γ) {x : Int32} (hx : ¬ x < 0) (hx2 : x.toNatClampNeg ≤ 1000) : mzK (wU Γ).vm .int [wA Γ 7, wA Γ 6, wA Γ 0] [6, 3, x] := by
  obtain ⟨⟨⟨k, h1, h2⟩, _⟩, ⟨⟨k3, h7, h8⟩, _⟩, _, h4, _⟩ := hQ
  exact ⟨⟨by decide, by decide⟩, ⟨k3, _, h7, h8, rfl⟩, ⟨by decide, by decide⟩, ⟨k, _, h1, h2, rfl⟩, ⟨hx, hx2⟩, h4⟩
noncomputable def f_X12_init_L203 (sh : Nat → Option SE) (Z : Nat) (LX : Nat) (xs : Nat → Int32) (k : Mem → Nat → Option (Unit × Mem)) : Nat → Int32 → Mem → Nat → Option (Unit × Mem)
  | 0, _, _, _ => none
  | n + 1, x25, M26, c27 => bd (gI M26 (109) 2) (fun v28 => (if v28 ≤ x25 then k M26 c27 else (if c27 + 0 ≤ 700 then cl (f_X13_next LX xs M26 (0 : Int32) (150 : Int32)) (fun v29 M30 => wrI M30 110 3 x25 v29 (fun M32 => (if c27 + 1 ≤ 700 then apK M32 (WL.getD 13 []) (fun M33 => rdI M33 110 3 x25 (fun v34 => (if (c27 + 1) + 1 ≤ 700 then apI M33 v34 (fun M35 => f_X12_init_L203 sh Z LX xs k n (x25 + (1 : Int32)) M35 ((c27 + 1) + 1)) else none))) else none))) else none)))
noncomputable def f_X12_init_L274 (sh : Nat → Option SE) (Z : Nat) (LX : Nat) (xs : Nat → Int32) (x38 : Int32) (k : Mem → Nat → Option (Unit × Mem)) : Nat → Int32 → Mem → Nat → Option (Unit × Mem)
  | 0, _, _, _ => none
  | n + 1, x46, M47, c48 => rdI M47 111 6 x38 (fun v49 => (if v49 ≤ x46 then k M47 c48 else (if c48 + 40 ≤ 700 then cl (f_X12_act sh Z LX xs M47 x38 x46) (fun v50 M51 => f_X12_init_L274 sh Z LX xs x38 k n (x46 + (1 : Int32)) M51 (c48 + 40)) else none)))
noncomputable def f_X12_init_L252 (sh : Nat → Option SE) (Z : Nat) (LX : Nat) (xs : Nat → Int32) (k : Mem → Nat → Option (Unit × Mem)) : Nat → Int32 → Mem → Nat → Option (Unit × Mem)
  | 0, _, _, _ => none
  | n + 1, x38, M39, c40 => bd (gI M39 (109) 1) (fun v41 => (if v41 ≤ x38 then k M39 c40 else (if c40 + 0 ≤ 700 then cl (f_X13_next LX xs M39 (1 : Int32) (3 : Int32)) (fun v42 M43 => wrI M43 111 6 x38 v42 (fun M45 => f_X12_init_L274 sh Z LX xs x38 (fun (M53 : Mem) (c54 : Nat) => (if c54 + 10 ≤ 700 then cl (f_X12_rule sh Z LX xs M53 x38) (fun v55 M56 => f_X12_init_L252 sh Z LX xs k n (x38 + (1 : Int32)) M56 (c54 + 10)) else none)) Z (0 : Int32) M45 c40)) else none)))
noncomputable def f_X12_init_t (sh : Nat → Option SE) (Z : Nat) (LX : Nat) (xs : Nat → Int32) (M : Mem) : Option (Unit × Mem) :=
  (if 110 + 0 ≤ 700 then cl (f_X13_next LX xs M (1 : Int32) (4 : Int32)) (fun v1 M2 => bd (sI M2 109 1 v1) (fun M4 => (if 110 + 0 ≤ 700 then cl (f_X13_next LX xs M4 (1 : Int32) (4 : Int32)) (fun v5 M6 => bd (sI M6 (109) 3 v5) (fun M8 => (if 110 + 0 ≤ 700 then cl (f_X13_next LX xs M8 (0 : Int32) (30010 : Int32)) (fun v9 M10 => bd (sI M10 (109) 4 v9) (fun M12 => bd (gI M12 (109) 1) (fun v13 => (if 110 + 1 ≤ 700 then apI M12 v13 (fun M14 => (if (110 + 1) + 1 ≤ 700 then apK M14 (WL.getD 11 []) (fun M15 => bd (gI M15 (109) 3) (fun v16 => (if ((110 + 1) + 1) + 1 ≤ 700 then apI M15 v16 (fun M17 => (if (((110 + 1) + 1) + 1) + 1 ≤ 700 then apK M17 (WL.getD 12 []) (fun M18 => bd (gI M18 (109) 4) (fun v19 => (if ((((110 + 1) + 1) + 1) + 1) + 1 ≤ 700 then apI M18 v19 (fun M20 => (if (((((110 + 1) + 1) + 1) + 1) + 1) + 0 ≤ 700 then cl (f_X13_next LX xs M20 (0 : Int32) (3 : Int32)) (fun v21 M22 => bd (sI M22 109 2 v21) (fun M24 => f_X12_init_L203 sh Z LX xs (fun (M36 : Mem) (c37 : Nat) => f_X12_init_L252 sh Z LX xs (fun (M58 : Mem) (c59 : Nat) => (if c59 + 0 ≤ 700 then cl (f_X13_next LX xs M58 (0 : Int32) (1 : Int32)) (fun v60 M61 => (if v60 = 0 then (if c59 ≤ 700 then some ((), M61) else none) else bd (gI M61 (109) 1) (fun v63 => (if c59 + 0 ≤ 700 then cl (f_X13_next LX xs M61 (0 : Int32) (v63 - (1 : Int32))) (fun v64 M65 => bd (sI M65 (109) 5 v64) (fun M67 => (if c59 + 1 ≤ 700 then apK M67 (WL.getD 20 []) (fun M68 => bd (gI M68 (109) 5) (fun v69 => (if (c59 + 1) + 1 ≤ 700 then apI M68 v69 (fun M70 => (if ((c59 + 1) + 1) ≤ 700 then some ((), M70) else none)) else none))) else none))) else none)))) else none)) Z (0 : Int32) M36 c37) Z (0 : Int32) M24 (((((110 + 1) + 1) + 1) + 1) + 1))) else none)) else none))) else none)) else none))) else none)) else none)))) else none))) else none))) else none)
set_option maxRecDepth 100000 in
theorem l_X12_init_L203 {Γ : WC} {X : MX} (hT : HT Γ) {b : Nat} {LX : Nat} {xs : Nat → Int32} (hX : HX0 Γ b LX xs) (C : CX Γ X cX12_init 4 RX12 none (rmL 10 700 (2200 * 700))) {ad0 ad00 : Nat → Nat} {l0 : List Nat} (hb : ad0 999 = b) (h00 : agr l0 ad00 ad0) (hl0 : ∀ o, o ∈ l0 → o ∈ lL) {rM : Unit × Mem} (E : EndD Γ SRV X ad00 l0 lL none rM.2 700 (2200 * 700)) {Z : Nat} {k : Mem → Nat → Option (Unit × Mem)} (hk : ∀  (Mx : Mem) (cx : Nat), k Mx cx = some rM → ∀ ad, agr lL ad0 ad → G (gc Γ SRV ad lL) X Mx cx (2200 * cx) [some (.ref (wad (gc Γ SRV ad lL) 109)), some (.ref (wad (gc Γ SRV ad lL) 108))] [] 250) : ∀ (n : Nat) (x25 : Int32) (M26 : Mem) (c27 : Nat), f_X12_init_L203 shL Z LX xs k n x25 M26 c27 = some rM → ∀ ad, agr lL ad0 ad → G (gc Γ SRV ad lL) X M26 c27 (2200 * c27) [some (.ref (wad (gc Γ SRV ad lL) 109)), some (.ref (wad (gc Γ SRV ad lL) 108)), some (.int x25)] [] 203 := by
  intro n
  induction n with
  | zero =>
    intro x25 M26 c27 hf ad hag
    have hf0 : (none : Option _) = some rM := hf
    cases hf0
  | succ n ih =>
    intro x25 M26 c27 hf ad hag
    rw [f_X12_init_L203] at hf
    refine x_iload_n (C.gc krV ad lL) rfl rfl (dkAt dk_X12_init_2 6 rfl) 204 rfl ?_
    refine x_aload_n (C.gc krV ad lL) rfl rfl (dkAt dk_X12_init_2 7 rfl) 205 rfl ?_
    refine x_getI (C.gc krV ad lL) lk_RX12_87 ((hV hT ad).2.1 109 (18, 17) rfl) (dkAt dk_X12_init_2 8 rfl) 208 rfl hf (fun v28 hf => ?_)
    refine x_icmp_ge (C.gc krV ad lL) 250 (dkAt dk_X12_init_2 9 rfl) 211 rfl (by decide) hf (fun hf => ?_) (fun hf => ?_)
    · exact G.weak (L := [some (.ref (wad (gc Γ SRV ad lL) 109)), some (.ref (wad (gc Γ SRV ad lL) 108))]) ⟨rfl, rfl, trivial⟩ (hk _ _ hf ad hag)
    · refine x_aload_n (C.gc krV ad lL) rfl rfl (dkAt dk_X12_init_2 10 rfl) 212 rfl ?_
      refine x_getS (C.gc krV ad lL) lk_RX12_20 ((hV hT ad).2.1 109 (18, 17) rfl) ((hV hT ad).2.2.2 109 6 110 rfl) (dkAt dk_X12_init_2 11 rfl) 215 rfl ?_
      refine x_iload_n (C.gc krV ad lL) rfl rfl (dkAt dk_X12_init_2 12 rfl) 216 rfl ?_
      refine x_aload_n (C.gc krV ad lL) rfl rfl (dkAt dk_X12_init_2 13 rfl) 217 rfl ?_
      refine x_iconst (C.gc krV ad lL) (v := (0 : Int32)) (by decide) (dkAt dk_X12_init_2 14 rfl) 218 rfl ?_
      refine x_sipush (C.gc krV ad lL) (v := (150 : Int32)) (by decide) (dkAt dk_X12_init_2 15 rfl) 221 rfl ?_
      obtain ⟨hc, hf⟩ := if_some hf
      obtain ⟨v29, M30, h31, hf⟩ := cl_inv hf
      refine x_cVi (C.gc krV ad lL) (c_X13_next (hV hT ad) (hXV hX (hag.b hb)) h31) mw_X13_next ln_RX12_61 mi_X13_next (show RC _ 108 RX13 from ⟨13, 2, _, ((hV hT ad).2.1 108 (19, 2) rfl), rc13, rfl⟩) (ro_c (k := 0) (by decide) (by decide) hc (Nat.zero_le _)) rfl rfl (Nat.le_of_ble_eq_true rfl) (dkAt dk_X12_init_2 16 rfl) 224 rfl _ _ rfl rfl ?_
      change G (gc Γ SRV ad lL) X M30 c27 (2200 * c27) [some (.ref (wad (gc Γ SRV ad lL) 109)), some (.ref (wad (gc Γ SRV ad lL) 108)), some (.int x25)] [.int v29, .int x25, .ref (wad (gc Γ SRV ad lL) 110)] 224
      refine x_iast (C.gc krV ad lL) ((hV hT ad).2.1 110 (0, 3) rfl) (dkAt dk_X12_init_2 17 rfl) 225 rfl hf (fun M32 hf => ?_)
      refine x_aload_n (C.gc krV ad lL) rfl rfl (dkAt dk_X12_init_2 18 rfl) 226 rfl ?_
      refine x_getS (C.gc krV ad lL) lk_RX12_14 ((hV hT ad).2.1 109 (18, 17) rfl) ((hV hT ad).2.2.2 109 0 210 rfl) (dkAt dk_X12_init_2 19 rfl) 229 rfl ?_
      refine x_ldcS (C.gc krV ad lL) (hT.2.st (i := 3) rfl) (dkAt dk_X12_init_2 20 rfl) 231 rfl ?_
      obtain ⟨hc, hf⟩ := if_some hf
      refine v_appS (L := [some (.inr 109), some (.inr 108), some (.inl (.int x25))]) (st := []) C hT hag (by decide) (by decide) hc hf ln_RX12_82 rfl rfl (svV rfl) (svW rfl) (Nat.le_of_ble_eq_true rfl) (dkAt dk_X12_init_2 21 rfl) 234 rfl (fun M33 ad hf hag => ?_)
      change G (gc Γ SRV ad lL) X M33 (c27 + 1) (2200 * (c27 + 1)) [some (.ref (wad (gc Γ SRV ad lL) 109)), some (.ref (wad (gc Γ SRV ad lL) 108)), some (.int x25)] [.ref (wad (gc Γ SRV ad lL) 210)] 234
      refine x_aload_n (C.gc krV ad lL) rfl rfl (dkAt dk_X12_init_2 22 rfl) 235 rfl ?_
      refine x_getS (C.gc krV ad lL) lk_RX12_20 ((hV hT ad).2.1 109 (18, 17) rfl) ((hV hT ad).2.2.2 109 6 110 rfl) (dkAt dk_X12_init_2 23 rfl) 238 rfl ?_
      refine x_iload_n (C.gc krV ad lL) rfl rfl (dkAt dk_X12_init_2 24 rfl) 239 rfl ?_
      refine x_iald (C.gc krV ad lL) ((hV hT ad).2.1 110 (0, 3) rfl) (dkAt dk_X12_init_2 25 rfl) 240 rfl hf (fun v34 hf => ?_)
      obtain ⟨hc, hf⟩ := if_some hf
      refine v_appI (L := [some (.inr 109), some (.inr 108), some (.inl (.int x25))]) (st := []) C hT hag (by decide) hc hf ln_RX12_76 rfl rfl (svV rfl) (svW rfl) (Nat.le_of_ble_eq_true rfl) (dkAt dk_X12_init_2 26 rfl) 243 rfl (fun M35 ad hf hag => ?_)
      change G (gc Γ SRV ad lL) X M35 ((c27 + 1) + 1) (2200 * ((c27 + 1) + 1)) [some (.ref (wad (gc Γ SRV ad lL) 109)), some (.ref (wad (gc Γ SRV ad lL) 108)), some (.int x25)] [.ref (wad (gc Γ SRV ad lL) 210)] 243
      refine x_pop (C.gc krV ad lL) rfl (dkAt dk_X12_init_2 27 rfl) 244 rfl ?_
      refine x_iinc (C.gc krV ad lL) (v := (x25 + (1 : Int32))) (L1 := [some (.ref (wad (gc Γ SRV ad lL) 109)), some (.ref (wad (gc Γ SRV ad lL) 108)), some (.int (x25 + (1 : Int32)))]) (dkAt dk_X12_init_2 28 rfl) 247 rfl rfl rfl (by decide) rfl ?_
      refine x_goto (C.gc krV ad lL) 203 (dkAt dk_X12_init_2 29 rfl) (by decide) ?_
      exact G.weak (L := [some (.ref (wad (gc Γ SRV ad lL) 109)), some (.ref (wad (gc Γ SRV ad lL) 108)), some (.int (x25 + (1 : Int32)))]) ⟨rfl, rfl, rfl, trivial⟩ (ih _ _ _ hf ad hag)
set_option maxRecDepth 100000 in
theorem l_X12_init_L274 {Γ : WC} {X : MX} (hT : HT Γ) {b : Nat} {LX : Nat} {xs : Nat → Int32} (hX : HX0 Γ b LX xs) (C : CX Γ X cX12_init 4 RX12 none (rmL 10 700 (2200 * 700))) {ad0 ad00 : Nat → Nat} {l0 : List Nat} (hb : ad0 999 = b) (h00 : agr l0 ad00 ad0) (hl0 : ∀ o, o ∈ l0 → o ∈ lL) {rM : Unit × Mem} (E : EndD Γ SRV X ad00 l0 lL none rM.2 700 (2200 * 700)) {Z : Nat} {x38 : Int32} {k : Mem → Nat → Option (Unit × Mem)} (hk : ∀  (Mx : Mem) (cx : Nat), k Mx cx = some rM → ∀ ad, agr lL ad0 ad → G (gc Γ SRV ad lL) X Mx cx (2200 * cx) [some (.ref (wad (gc Γ SRV ad lL) 109)), some (.ref (wad (gc Γ SRV ad lL) 108)), some (.int x38)] [] 297) : ∀ (n : Nat) (x46 : Int32) (M47 : Mem) (c48 : Nat), f_X12_init_L274 shL Z LX xs x38 k n x46 M47 c48 = some rM → ∀ ad, agr lL ad0 ad → G (gc Γ SRV ad lL) X M47 c48 (2200 * c48) [some (.ref (wad (gc Γ SRV ad lL) 109)), some (.ref (wad (gc Γ SRV ad lL) 108)), some (.int x38), some (.int x46)] [] 274 := by
  intro n
  induction n with
  | zero =>
    intro x46 M47 c48 hf ad hag
    have hf0 : (none : Option _) = some rM := hf
    cases hf0
  | succ n ih =>
    intro x46 M47 c48 hf ad hag
    rw [f_X12_init_L274] at hf
    refine x_iload_n (C.gc krV ad lL) rfl rfl (dkAt dk_X12_init_2 46 rfl) 275 rfl ?_
    refine x_aload_n (C.gc krV ad lL) rfl rfl (dkAt dk_X12_init_2 47 rfl) 276 rfl ?_
    refine x_getS (C.gc krV ad lL) lk_RX12_24 ((hV hT ad).2.1 109 (18, 17) rfl) ((hV hT ad).2.2.2 109 7 111 rfl) (dkAt dk_X12_init_3 0 rfl) 279 rfl ?_
    refine x_iload_n (C.gc krV ad lL) rfl rfl (dkAt dk_X12_init_3 1 rfl) 280 rfl ?_
    refine x_iald (C.gc krV ad lL) ((hV hT ad).2.1 111 (0, 6) rfl) (dkAt dk_X12_init_3 2 rfl) 281 rfl hf (fun v49 hf => ?_)
    refine x_icmp_ge (C.gc krV ad lL) 297 (dkAt dk_X12_init_3 3 rfl) 284 rfl (by decide) hf (fun hf => ?_) (fun hf => ?_)
    · exact G.weak (L := [some (.ref (wad (gc Γ SRV ad lL) 109)), some (.ref (wad (gc Γ SRV ad lL) 108)), some (.int x38)]) ⟨rfl, rfl, rfl, trivial⟩ (hk _ _ hf ad hag)
    · refine x_aload_n (C.gc krV ad lL) rfl rfl (dkAt dk_X12_init_3 4 rfl) 285 rfl ?_
      refine x_aload_n (C.gc krV ad lL) rfl rfl (dkAt dk_X12_init_3 5 rfl) 286 rfl ?_
      refine x_iload_n (C.gc krV ad lL) rfl rfl (dkAt dk_X12_init_3 6 rfl) 287 rfl ?_
      refine x_iload_n (C.gc krV ad lL) rfl rfl (dkAt dk_X12_init_3 7 rfl) 288 rfl ?_
      obtain ⟨hc, hf⟩ := if_some hf
      obtain ⟨v50, M51, h52, hf⟩ := cl_inv hf
      refine d_cVX (L := [some (.inr 109), some (.inr 108), some (.inl (.int x38)), some (.inl (.int x46))]) (st := []) C (c_X12_act hT hX h52) (hag.b hb) mw_X12_act ln_RX12_92 mi_X12_act (show RC (gc Γ SRV ad lL) 109 RX12 from ⟨12, 17, _, ((hV hT ad).2.1 109 (18, 17) rfl), rc12, rfl⟩) (ro_c (k := 40) (by decide) (by decide) hc (by decide)) rfl hag (fun _ h => h) rfl rfl (svV rfl) (svW rfl) (Nat.le_of_ble_eq_true rfl) (dkAt dk_X12_init_3 8 rfl) 291 rfl rfl (Nat.mul_add _ _ _).symm (fun _ ad hag => ?_)
      change G (gc Γ SRV ad lL) X M51 (c48 + 40) (2200 * (c48 + 40)) [some (.ref (wad (gc Γ SRV ad lL) 109)), some (.ref (wad (gc Γ SRV ad lL) 108)), some (.int x38), some (.int x46)] [] 291
      refine x_iinc (C.gc krV ad lL) (v := (x46 + (1 : Int32))) (L1 := [some (.ref (wad (gc Γ SRV ad lL) 109)), some (.ref (wad (gc Γ SRV ad lL) 108)), some (.int x38), some (.int (x46 + (1 : Int32)))]) (dkAt dk_X12_init_3 9 rfl) 294 rfl rfl rfl (by decide) rfl ?_
      refine x_goto (C.gc krV ad lL) 274 (dkAt dk_X12_init_3 10 rfl) (by decide) ?_
      exact G.weak (L := [some (.ref (wad (gc Γ SRV ad lL) 109)), some (.ref (wad (gc Γ SRV ad lL) 108)), some (.int x38), some (.int (x46 + (1 : Int32)))]) ⟨rfl, rfl, rfl, rfl, trivial⟩ (ih _ _ _ hf ad hag)
set_option maxRecDepth 100000 in
theorem l_X12_init_L252 {Γ : WC} {X : MX} (hT : HT Γ) {b : Nat} {LX : Nat} {xs : Nat → Int32} (hX : HX0 Γ b LX xs) (C : CX Γ X cX12_init 4 RX12 none (rmL 10 700 (2200 * 700))) {ad0 ad00 : Nat → Nat} {l0 : List Nat} (hb : ad0 999 = b) (h00 : agr l0 ad00 ad0) (hl0 : ∀ o, o ∈ l0 → o ∈ lL) {rM : Unit × Mem} (E : EndD Γ SRV X ad00 l0 lL none rM.2 700 (2200 * 700)) {Z : Nat} {k : Mem → Nat → Option (Unit × Mem)} (hk : ∀  (Mx : Mem) (cx : Nat), k Mx cx = some rM → ∀ ad, agr lL ad0 ad → G (gc Γ SRV ad lL) X Mx cx (2200 * cx) [some (.ref (wad (gc Γ SRV ad lL) 109)), some (.ref (wad (gc Γ SRV ad lL) 108))] [] 309) : ∀ (n : Nat) (x38 : Int32) (M39 : Mem) (c40 : Nat), f_X12_init_L252 shL Z LX xs k n x38 M39 c40 = some rM → ∀ ad, agr lL ad0 ad → G (gc Γ SRV ad lL) X M39 c40 (2200 * c40) [some (.ref (wad (gc Γ SRV ad lL) 109)), some (.ref (wad (gc Γ SRV ad lL) 108)), some (.int x38)] [] 252 := by
  intro n
  induction n with
  | zero =>
    intro x38 M39 c40 hf ad hag
    have hf0 : (none : Option _) = some rM := hf
    cases hf0
  | succ n ih =>
    intro x38 M39 c40 hf ad hag
    rw [f_X12_init_L252] at hf
    refine x_iload_n (C.gc krV ad lL) rfl rfl (dkAt dk_X12_init_2 32 rfl) 253 rfl ?_
    refine x_aload_n (C.gc krV ad lL) rfl rfl (dkAt dk_X12_init_2 33 rfl) 254 rfl ?_
    refine x_getI (C.gc krV ad lL) lk_RX12_67 ((hV hT ad).2.1 109 (18, 17) rfl) (dkAt dk_X12_init_2 34 rfl) 257 rfl hf (fun v41 hf => ?_)
    refine x_icmp_ge (C.gc krV ad lL) 309 (dkAt dk_X12_init_2 35 rfl) 260 rfl (by decide) hf (fun hf => ?_) (fun hf => ?_)
    · exact G.weak (L := [some (.ref (wad (gc Γ SRV ad lL) 109)), some (.ref (wad (gc Γ SRV ad lL) 108))]) ⟨rfl, rfl, trivial⟩ (hk _ _ hf ad hag)
    · refine x_aload_n (C.gc krV ad lL) rfl rfl (dkAt dk_X12_init_2 36 rfl) 261 rfl ?_
      refine x_getS (C.gc krV ad lL) lk_RX12_24 ((hV hT ad).2.1 109 (18, 17) rfl) ((hV hT ad).2.2.2 109 7 111 rfl) (dkAt dk_X12_init_2 37 rfl) 264 rfl ?_
      refine x_iload_n (C.gc krV ad lL) rfl rfl (dkAt dk_X12_init_2 38 rfl) 265 rfl ?_
      refine x_aload_n (C.gc krV ad lL) rfl rfl (dkAt dk_X12_init_2 39 rfl) 266 rfl ?_
      refine x_iconst (C.gc krV ad lL) (v := (1 : Int32)) (by decide) (dkAt dk_X12_init_2 40 rfl) 267 rfl ?_
      refine x_iconst (C.gc krV ad lL) (v := (3 : Int32)) (by decide) (dkAt dk_X12_init_2 41 rfl) 268 rfl ?_
      obtain ⟨hc, hf⟩ := if_some hf
      obtain ⟨v42, M43, h44, hf⟩ := cl_inv hf
      refine x_cVi (C.gc krV ad lL) (c_X13_next (hV hT ad) (hXV hX (hag.b hb)) h44) mw_X13_next ln_RX12_61 mi_X13_next (show RC _ 108 RX13 from ⟨13, 2, _, ((hV hT ad).2.1 108 (19, 2) rfl), rc13, rfl⟩) (ro_c (k := 0) (by decide) (by decide) hc (Nat.zero_le _)) rfl rfl (Nat.le_of_ble_eq_true rfl) (dkAt dk_X12_init_2 42 rfl) 271 rfl _ _ rfl rfl ?_
      change G (gc Γ SRV ad lL) X M43 c40 (2200 * c40) [some (.ref (wad (gc Γ SRV ad lL) 109)), some (.ref (wad (gc Γ SRV ad lL) 108)), some (.int x38)] [.int v42, .int x38, .ref (wad (gc Γ SRV ad lL) 111)] 271
      refine x_iast (C.gc krV ad lL) ((hV hT ad).2.1 111 (0, 6) rfl) (dkAt dk_X12_init_2 43 rfl) 272 rfl hf (fun M45 hf => ?_)
      refine x_iconst (C.gc krV ad lL) (v := (0 : Int32)) (by decide) (dkAt dk_X12_init_2 44 rfl) 273 rfl ?_
      refine x_istore_n (C.gc krV ad lL) (L1 := [some (.ref (wad (gc Γ SRV ad lL) 109)), some (.ref (wad (gc Γ SRV ad lL) 108)), some (.int x38), some (.int (0 : Int32))]) (dkAt dk_X12_init_2 45 rfl) 274 rfl rfl (by decide) rfl ?_
      refine G.weak (L := [some (.ref (wad (gc Γ SRV ad lL) 109)), some (.ref (wad (gc Γ SRV ad lL) 108)), some (.int x38), some (.int (0 : Int32))]) ⟨rfl, rfl, rfl, rfl, trivial⟩ ?_
      refine l_X12_init_L274 hT hX C hb h00 hl0 E ?_ Z _ _ _ hf ad hag
      intro M53 c54 hf ad hag
      refine x_aload_n (C.gc krV ad lL) rfl rfl (dkAt dk_X12_init_3 11 rfl) 298 rfl ?_
      refine x_aload_n (C.gc krV ad lL) rfl rfl (dkAt dk_X12_init_3 12 rfl) 299 rfl ?_
      refine x_iload_n (C.gc krV ad lL) rfl rfl (dkAt dk_X12_init_3 13 rfl) 300 rfl ?_
      obtain ⟨hc, hf⟩ := if_some hf
      obtain ⟨v55, M56, h57, hf⟩ := cl_inv hf
      refine d_cVX (L := [some (.inr 109), some (.inr 108), some (.inl (.int x38))]) (st := []) C (c_X12_rule hT hX h57) (hag.b hb) mw_X12_rule ln_RX12_96 mi_X12_rule (show RC (gc Γ SRV ad lL) 109 RX12 from ⟨12, 17, _, ((hV hT ad).2.1 109 (18, 17) rfl), rc12, rfl⟩) (ro_c (k := 10) (by decide) (by decide) hc (by decide)) rfl hag (fun _ h => h) rfl rfl (svV rfl) (svW rfl) (Nat.le_of_ble_eq_true rfl) (dkAt dk_X12_init_3 14 rfl) 303 rfl rfl (Nat.mul_add _ _ _).symm (fun _ ad hag => ?_)
      change G (gc Γ SRV ad lL) X M56 (c54 + 10) (2200 * (c54 + 10)) [some (.ref (wad (gc Γ SRV ad lL) 109)), some (.ref (wad (gc Γ SRV ad lL) 108)), some (.int x38)] [] 303
      refine x_iinc (C.gc krV ad lL) (v := (x38 + (1 : Int32))) (L1 := [some (.ref (wad (gc Γ SRV ad lL) 109)), some (.ref (wad (gc Γ SRV ad lL) 108)), some (.int (x38 + (1 : Int32)))]) (dkAt dk_X12_init_3 15 rfl) 306 rfl rfl rfl (by decide) rfl ?_
      refine x_goto (C.gc krV ad lL) 252 (dkAt dk_X12_init_3 16 rfl) (by decide) ?_
      exact G.weak (L := [some (.ref (wad (gc Γ SRV ad lL) 109)), some (.ref (wad (gc Γ SRV ad lL) 108)), some (.int (x38 + (1 : Int32)))]) ⟨rfl, rfl, rfl, trivial⟩ (ih _ _ _ hf ad hag)
set_option maxRecDepth 100000 in
theorem t_X12_init {Γ : WC} {X : MX} (hT : HT Γ) {b : Nat} {LX : Nat} {xs : Nat → Int32} (hX : HX0 Γ b LX xs) (C : CX Γ X cX12_init 4 RX12 none (rmL 10 700 (2200 * 700))) (hI : XI X) {ad0 ad00 : Nat → Nat} {l0 : List Nat} (hb : ad0 999 = b) (h00 : agr l0 ad00 ad0) (hl0 : ∀ o, o ∈ l0 → o ∈ lL) {rM : Unit × Mem} (E : EndD Γ SRV X ad00 l0 lL none rM.2 700 (2200 * 700)) {Z : Nat} {M : Mem} (hf : f_X12_init_t shL Z LX xs M = some rM) : ∀ ad, agr lL ad0 ad → G (gc Γ SRV ad lL) X M (110) (2200 * (110)) [some (.ref (wad (gc Γ SRV ad lL) 109)), some (.ref (wad (gc Γ SRV ad lL) 108))] [] 123 := by
  intro ad hag
  unfold f_X12_init_t at hf
  refine x_aload_n (C.gc krV ad lL) rfl rfl (dkAt dk_X12_init_1 12 rfl) 124 rfl ?_
  refine x_aload_n (C.gc krV ad lL) rfl rfl (dkAt dk_X12_init_1 13 rfl) 125 rfl ?_
  refine x_iconst (C.gc krV ad lL) (v := (1 : Int32)) (by decide) (dkAt dk_X12_init_1 14 rfl) 126 rfl ?_
  refine x_iconst (C.gc krV ad lL) (v := (4 : Int32)) (by decide) (dkAt dk_X12_init_1 15 rfl) 127 rfl ?_
  obtain ⟨hc, hf⟩ := if_some hf
  obtain ⟨v1, M2, h3, hf⟩ := cl_inv hf
  refine x_cVi (C.gc krV ad lL) (c_X13_next (hV hT ad) (hXV hX (hag.b hb)) h3) mw_X13_next ln_RX12_61 mi_X13_next (show RC _ 108 RX13 from ⟨13, 2, _, ((hV hT ad).2.1 108 (19, 2) rfl), rc13, rfl⟩) (ro_c (k := 0) (by decide) (by decide) hc (Nat.zero_le _)) rfl rfl (Nat.le_of_ble_eq_true rfl) (dkAt dk_X12_init_1 16 rfl) 130 rfl _ _ rfl rfl ?_
  change G (gc Γ SRV ad lL) X M2 (110) (2200 * (110)) [some (.ref (wad (gc Γ SRV ad lL) 109)), some (.ref (wad (gc Γ SRV ad lL) 108))] [.int v1, .ref (wad (gc Γ SRV ad lL) 109)] 130
  refine x_putFIk (C.gc krV ad lL) hI pkf_RX12_67 ⟨_, rfl⟩ ((hV hT ad).2.1 109 (18, 17) rfl) (dkAt dk_X12_init_1 17 rfl) 133 rfl hf (fun M4 hf => ?_)
  refine x_aload_n (C.gc krV ad lL) rfl rfl (dkAt dk_X12_init_1 18 rfl) 134 rfl ?_
  refine x_aload_n (C.gc krV ad lL) rfl rfl (dkAt dk_X12_init_1 19 rfl) 135 rfl ?_
  refine x_iconst (C.gc krV ad lL) (v := (1 : Int32)) (by decide) (dkAt dk_X12_init_1 20 rfl) 136 rfl ?_
  refine x_iconst (C.gc krV ad lL) (v := (4 : Int32)) (by decide) (dkAt dk_X12_init_1 21 rfl) 137 rfl ?_
  obtain ⟨hc, hf⟩ := if_some hf
  obtain ⟨v5, M6, h7, hf⟩ := cl_inv hf
  refine x_cVi (C.gc krV ad lL) (c_X13_next (hV hT ad) (hXV hX (hag.b hb)) h7) mw_X13_next ln_RX12_61 mi_X13_next (show RC _ 108 RX13 from ⟨13, 2, _, ((hV hT ad).2.1 108 (19, 2) rfl), rc13, rfl⟩) (ro_c (k := 0) (by decide) (by decide) hc (Nat.zero_le _)) rfl rfl (Nat.le_of_ble_eq_true rfl) (dkAt dk_X12_init_1 22 rfl) 140 rfl _ _ rfl rfl ?_
  change G (gc Γ SRV ad lL) X M6 (110) (2200 * (110)) [some (.ref (wad (gc Γ SRV ad lL) 109)), some (.ref (wad (gc Γ SRV ad lL) 108))] [.int v5, .ref (wad (gc Γ SRV ad lL) 109)] 140
  refine x_putI (C.gc krV ad lL) pk_RX12_70 ⟨_, rfl⟩ ((hV hT ad).2.1 109 (18, 17) rfl) (dkAt dk_X12_init_1 23 rfl) 143 rfl hf (fun M8 hf => ?_)
  refine x_aload_n (C.gc krV ad lL) rfl rfl (dkAt dk_X12_init_1 24 rfl) 144 rfl ?_
  refine x_aload_n (C.gc krV ad lL) rfl rfl (dkAt dk_X12_init_1 25 rfl) 145 rfl ?_
  refine x_iconst (C.gc krV ad lL) (v := (0 : Int32)) (by decide) (dkAt dk_X12_init_1 26 rfl) 146 rfl ?_
  refine x_sipush (C.gc krV ad lL) (v := (30010 : Int32)) (by decide) (dkAt dk_X12_init_1 27 rfl) 149 rfl ?_
  obtain ⟨hc, hf⟩ := if_some hf
  obtain ⟨v9, M10, h11, hf⟩ := cl_inv hf
  refine x_cVi (C.gc krV ad lL) (c_X13_next (hV hT ad) (hXV hX (hag.b hb)) h11) mw_X13_next ln_RX12_61 mi_X13_next (show RC _ 108 RX13 from ⟨13, 2, _, ((hV hT ad).2.1 108 (19, 2) rfl), rc13, rfl⟩) (ro_c (k := 0) (by decide) (by decide) hc (Nat.zero_le _)) rfl rfl (Nat.le_of_ble_eq_true rfl) (dkAt dk_X12_init_1 28 rfl) 152 rfl _ _ rfl rfl ?_
  change G (gc Γ SRV ad lL) X M10 (110) (2200 * (110)) [some (.ref (wad (gc Γ SRV ad lL) 109)), some (.ref (wad (gc Γ SRV ad lL) 108))] [.int v9, .ref (wad (gc Γ SRV ad lL) 109)] 152
  refine x_putI (C.gc krV ad lL) pk_RX12_73 ⟨_, rfl⟩ ((hV hT ad).2.1 109 (18, 17) rfl) (dkAt dk_X12_init_1 29 rfl) 155 rfl hf (fun M12 hf => ?_)
  refine x_aload_n (C.gc krV ad lL) rfl rfl (dkAt dk_X12_init_1 30 rfl) 156 rfl ?_
  refine x_getS (C.gc krV ad lL) lk_RX12_14 ((hV hT ad).2.1 109 (18, 17) rfl) ((hV hT ad).2.2.2 109 0 210 rfl) (dkAt dk_X12_init_1 31 rfl) 159 rfl ?_
  refine x_aload_n (C.gc krV ad lL) rfl rfl (dkAt dk_X12_init_1 32 rfl) 160 rfl ?_
  refine x_getI (C.gc krV ad lL) lk_RX12_67 ((hV hT ad).2.1 109 (18, 17) rfl) (dkAt dk_X12_init_1 33 rfl) 163 rfl hf (fun v13 hf => ?_)
  obtain ⟨hc, hf⟩ := if_some hf
  refine v_appI (L := [some (.inr 109), some (.inr 108)]) (st := []) C hT hag (by decide) hc hf ln_RX12_76 rfl rfl (svV rfl) (svW rfl) (Nat.le_of_ble_eq_true rfl) (dkAt dk_X12_init_1 34 rfl) 166 rfl (fun M14 ad hf hag => ?_)
  change G (gc Γ SRV ad lL) X M14 (110 + 1) (2200 * (110 + 1)) [some (.ref (wad (gc Γ SRV ad lL) 109)), some (.ref (wad (gc Γ SRV ad lL) 108))] [.ref (wad (gc Γ SRV ad lL) 210)] 166
  refine x_ldcS (C.gc krV ad lL) (hT.2.st (i := 1) rfl) (dkAt dk_X12_init_1 35 rfl) 168 rfl ?_
  obtain ⟨hc, hf⟩ := if_some hf
  refine v_appS (L := [some (.inr 109), some (.inr 108)]) (st := []) C hT hag (by decide) (by decide) hc hf ln_RX12_82 rfl rfl (svV rfl) (svW rfl) (Nat.le_of_ble_eq_true rfl) (dkAt dk_X12_init_1 36 rfl) 171 rfl (fun M15 ad hf hag => ?_)
  change G (gc Γ SRV ad lL) X M15 ((110 + 1) + 1) (2200 * ((110 + 1) + 1)) [some (.ref (wad (gc Γ SRV ad lL) 109)), some (.ref (wad (gc Γ SRV ad lL) 108))] [.ref (wad (gc Γ SRV ad lL) 210)] 171
  refine x_aload_n (C.gc krV ad lL) rfl rfl (dkAt dk_X12_init_1 37 rfl) 172 rfl ?_
  refine x_getI (C.gc krV ad lL) lk_RX12_70 ((hV hT ad).2.1 109 (18, 17) rfl) (dkAt dk_X12_init_1 38 rfl) 175 rfl hf (fun v16 hf => ?_)
  obtain ⟨hc, hf⟩ := if_some hf
  refine v_appI (L := [some (.inr 109), some (.inr 108)]) (st := []) C hT hag (by decide) hc hf ln_RX12_76 rfl rfl (svV rfl) (svW rfl) (Nat.le_of_ble_eq_true rfl) (dkAt dk_X12_init_1 39 rfl) 178 rfl (fun M17 ad hf hag => ?_)
  change G (gc Γ SRV ad lL) X M17 (((110 + 1) + 1) + 1) (2200 * (((110 + 1) + 1) + 1)) [some (.ref (wad (gc Γ SRV ad lL) 109)), some (.ref (wad (gc Γ SRV ad lL) 108))] [.ref (wad (gc Γ SRV ad lL) 210)] 178
  refine x_ldcS (C.gc krV ad lL) (hT.2.st (i := 2) rfl) (dkAt dk_X12_init_1 40 rfl) 180 rfl ?_
  obtain ⟨hc, hf⟩ := if_some hf
  refine v_appS (L := [some (.inr 109), some (.inr 108)]) (st := []) C hT hag (by decide) (by decide) hc hf ln_RX12_82 rfl rfl (svV rfl) (svW rfl) (Nat.le_of_ble_eq_true rfl) (dkAt dk_X12_init_1 41 rfl) 183 rfl (fun M18 ad hf hag => ?_)
  change G (gc Γ SRV ad lL) X M18 ((((110 + 1) + 1) + 1) + 1) (2200 * ((((110 + 1) + 1) + 1) + 1)) [some (.ref (wad (gc Γ SRV ad lL) 109)), some (.ref (wad (gc Γ SRV ad lL) 108))] [.ref (wad (gc Γ SRV ad lL) 210)] 183
  refine x_aload_n (C.gc krV ad lL) rfl rfl (dkAt dk_X12_init_1 42 rfl) 184 rfl ?_
  refine x_getI (C.gc krV ad lL) lk_RX12_73 ((hV hT ad).2.1 109 (18, 17) rfl) (dkAt dk_X12_init_1 43 rfl) 187 rfl hf (fun v19 hf => ?_)
  obtain ⟨hc, hf⟩ := if_some hf
  refine v_appI (L := [some (.inr 109), some (.inr 108)]) (st := []) C hT hag (by decide) hc hf ln_RX12_76 rfl rfl (svV rfl) (svW rfl) (Nat.le_of_ble_eq_true rfl) (dkAt dk_X12_init_1 44 rfl) 190 rfl (fun M20 ad hf hag => ?_)
  change G (gc Γ SRV ad lL) X M20 (((((110 + 1) + 1) + 1) + 1) + 1) (2200 * (((((110 + 1) + 1) + 1) + 1) + 1)) [some (.ref (wad (gc Γ SRV ad lL) 109)), some (.ref (wad (gc Γ SRV ad lL) 108))] [.ref (wad (gc Γ SRV ad lL) 210)] 190
  refine x_pop (C.gc krV ad lL) rfl (dkAt dk_X12_init_1 45 rfl) 191 rfl ?_
  refine x_aload_n (C.gc krV ad lL) rfl rfl (dkAt dk_X12_init_1 46 rfl) 192 rfl ?_
  refine x_aload_n (C.gc krV ad lL) rfl rfl (dkAt dk_X12_init_1 47 rfl) 193 rfl ?_
  refine x_iconst (C.gc krV ad lL) (v := (0 : Int32)) (by decide) (dkAt dk_X12_init_2 0 rfl) 194 rfl ?_
  refine x_iconst (C.gc krV ad lL) (v := (3 : Int32)) (by decide) (dkAt dk_X12_init_2 1 rfl) 195 rfl ?_
  obtain ⟨hc, hf⟩ := if_some hf
  obtain ⟨v21, M22, h23, hf⟩ := cl_inv hf
  refine x_cVi (C.gc krV ad lL) (c_X13_next (hV hT ad) (hXV hX (hag.b hb)) h23) mw_X13_next ln_RX12_61 mi_X13_next (show RC _ 108 RX13 from ⟨13, 2, _, ((hV hT ad).2.1 108 (19, 2) rfl), rc13, rfl⟩) (ro_c (k := 0) (by decide) (by decide) hc (Nat.zero_le _)) rfl rfl (Nat.le_of_ble_eq_true rfl) (dkAt dk_X12_init_2 2 rfl) 198 rfl _ _ rfl rfl ?_
  change G (gc Γ SRV ad lL) X M22 (((((110 + 1) + 1) + 1) + 1) + 1) (2200 * (((((110 + 1) + 1) + 1) + 1) + 1)) [some (.ref (wad (gc Γ SRV ad lL) 109)), some (.ref (wad (gc Γ SRV ad lL) 108))] [.int v21, .ref (wad (gc Γ SRV ad lL) 109)] 198
  refine x_putFIk (C.gc krV ad lL) hI pkf_RX12_87 ⟨_, rfl⟩ ((hV hT ad).2.1 109 (18, 17) rfl) (dkAt dk_X12_init_2 3 rfl) 201 rfl hf (fun M24 hf => ?_)
  refine x_iconst (C.gc krV ad lL) (v := (0 : Int32)) (by decide) (dkAt dk_X12_init_2 4 rfl) 202 rfl ?_
  refine x_istore_n (C.gc krV ad lL) (L1 := [some (.ref (wad (gc Γ SRV ad lL) 109)), some (.ref (wad (gc Γ SRV ad lL) 108)), some (.int (0 : Int32))]) (dkAt dk_X12_init_2 5 rfl) 203 rfl rfl (by decide) rfl ?_
  refine G.weak (L := [some (.ref (wad (gc Γ SRV ad lL) 109)), some (.ref (wad (gc Γ SRV ad lL) 108)), some (.int (0 : Int32))]) ⟨rfl, rfl, rfl, trivial⟩ ?_
  refine l_X12_init_L203 hT hX C hb h00 hl0 E ?_ Z _ _ _ hf ad hag
  intro M36 c37 hf ad hag
  refine x_iconst (C.gc krV ad lL) (v := (0 : Int32)) (by decide) (dkAt dk_X12_init_2 30 rfl) 251 rfl ?_
  refine x_istore_n (C.gc krV ad lL) (L1 := [some (.ref (wad (gc Γ SRV ad lL) 109)), some (.ref (wad (gc Γ SRV ad lL) 108)), some (.int (0 : Int32))]) (dkAt dk_X12_init_2 31 rfl) 252 rfl rfl (by decide) rfl ?_
  refine G.weak (L := [some (.ref (wad (gc Γ SRV ad lL) 109)), some (.ref (wad (gc Γ SRV ad lL) 108)), some (.int (0 : Int32))]) ⟨rfl, rfl, rfl, trivial⟩ ?_
  refine l_X12_init_L252 hT hX C hb h00 hl0 E ?_ Z _ _ _ hf ad hag
  intro M58 c59 hf ad hag
  refine x_aload_n (C.gc krV ad lL) rfl rfl (dkAt dk_X12_init_3 17 rfl) 310 rfl ?_
  refine x_iconst (C.gc krV ad lL) (v := (0 : Int32)) (by decide) (dkAt dk_X12_init_3 18 rfl) 311 rfl ?_
  refine x_iconst (C.gc krV ad lL) (v := (1 : Int32)) (by decide) (dkAt dk_X12_init_3 19 rfl) 312 rfl ?_
  obtain ⟨hc, hf⟩ := if_some hf
  obtain ⟨v60, M61, h62, hf⟩ := cl_inv hf
  refine x_cVi (C.gc krV ad lL) (c_X13_next (hV hT ad) (hXV hX (hag.b hb)) h62) mw_X13_next ln_RX12_61 mi_X13_next (show RC _ 108 RX13 from ⟨13, 2, _, ((hV hT ad).2.1 108 (19, 2) rfl), rc13, rfl⟩) (ro_c (k := 0) (by decide) (by decide) hc (Nat.zero_le _)) rfl rfl (Nat.le_of_ble_eq_true rfl) (dkAt dk_X12_init_3 20 rfl) 315 rfl _ _ rfl rfl ?_
  change G (gc Γ SRV ad lL) X M61 c59 (2200 * c59) [some (.ref (wad (gc Γ SRV ad lL) 109)), some (.ref (wad (gc Γ SRV ad lL) 108))] [.int v60] 315
  refine x_if_ne (C.gc krV ad lL) 319 (dkAt dk_X12_init_3 21 rfl) 318 rfl (by decide) hf (fun hf => ?_) (fun hf => ?_)
  · refine x_aload_n (C.gc krV ad lL) rfl rfl (dkAt dk_X12_init_3 23 rfl) 320 rfl ?_
    refine x_aload_n (C.gc krV ad lL) rfl rfl (dkAt dk_X12_init_3 24 rfl) 321 rfl ?_
    refine x_iconst (C.gc krV ad lL) (v := (0 : Int32)) (by decide) (dkAt dk_X12_init_3 25 rfl) 322 rfl ?_
    refine x_aload_n (C.gc krV ad lL) rfl rfl (dkAt dk_X12_init_3 26 rfl) 323 rfl ?_
    refine x_getI (C.gc krV ad lL) lk_RX12_67 ((hV hT ad).2.1 109 (18, 17) rfl) (dkAt dk_X12_init_3 27 rfl) 326 rfl hf (fun v63 hf => ?_)
    refine x_iconst (C.gc krV ad lL) (v := (1 : Int32)) (by decide) (dkAt dk_X12_init_3 28 rfl) 327 rfl ?_
    refine x_isub (C.gc krV ad lL) (dkAt dk_X12_init_3 29 rfl) 328 rfl ?_
    obtain ⟨hc, hf⟩ := if_some hf
    obtain ⟨v64, M65, h66, hf⟩ := cl_inv hf
    refine x_cVi (C.gc krV ad lL) (c_X13_next (hV hT ad) (hXV hX (hag.b hb)) h66) mw_X13_next ln_RX12_61 mi_X13_next (show RC _ 108 RX13 from ⟨13, 2, _, ((hV hT ad).2.1 108 (19, 2) rfl), rc13, rfl⟩) (ro_c (k := 0) (by decide) (by decide) hc (Nat.zero_le _)) rfl rfl (Nat.le_of_ble_eq_true rfl) (dkAt dk_X12_init_3 30 rfl) 331 rfl _ _ rfl rfl ?_
    change G (gc Γ SRV ad lL) X M65 c59 (2200 * c59) [some (.ref (wad (gc Γ SRV ad lL) 109)), some (.ref (wad (gc Γ SRV ad lL) 108))] [.int v64, .ref (wad (gc Γ SRV ad lL) 109)] 331
    refine x_putI (C.gc krV ad lL) pk_RX12_100 ⟨_, rfl⟩ ((hV hT ad).2.1 109 (18, 17) rfl) (dkAt dk_X12_init_3 31 rfl) 334 rfl hf (fun M67 hf => ?_)
    refine x_aload_n (C.gc krV ad lL) rfl rfl (dkAt dk_X12_init_3 32 rfl) 335 rfl ?_
    refine x_getS (C.gc krV ad lL) lk_RX12_14 ((hV hT ad).2.1 109 (18, 17) rfl) ((hV hT ad).2.2.2 109 0 210 rfl) (dkAt dk_X12_init_3 33 rfl) 338 rfl ?_
    refine x_ldcS (C.gc krV ad lL) (hT.2.st (i := 10) rfl) (dkAt dk_X12_init_3 34 rfl) 340 rfl ?_
    obtain ⟨hc, hf⟩ := if_some hf
    refine v_appS (L := [some (.inr 109), some (.inr 108)]) (st := []) C hT hag (by decide) (by decide) hc hf ln_RX12_82 rfl rfl (svV rfl) (svW rfl) (Nat.le_of_ble_eq_true rfl) (dkAt dk_X12_init_3 35 rfl) 343 rfl (fun M68 ad hf hag => ?_)
    change G (gc Γ SRV ad lL) X M68 (c59 + 1) (2200 * (c59 + 1)) [some (.ref (wad (gc Γ SRV ad lL) 109)), some (.ref (wad (gc Γ SRV ad lL) 108))] [.ref (wad (gc Γ SRV ad lL) 210)] 343
    refine x_aload_n (C.gc krV ad lL) rfl rfl (dkAt dk_X12_init_3 36 rfl) 344 rfl ?_
    refine x_getI (C.gc krV ad lL) lk_RX12_100 ((hV hT ad).2.1 109 (18, 17) rfl) (dkAt dk_X12_init_3 37 rfl) 347 rfl hf (fun v69 hf => ?_)
    obtain ⟨hc, hf⟩ := if_some hf
    refine v_appI (L := [some (.inr 109), some (.inr 108)]) (st := []) C hT hag (by decide) hc hf ln_RX12_76 rfl rfl (svV rfl) (svW rfl) (Nat.le_of_ble_eq_true rfl) (dkAt dk_X12_init_3 38 rfl) 350 rfl (fun M70 ad hf hag => ?_)
    change G (gc Γ SRV ad lL) X M70 ((c59 + 1) + 1) (2200 * ((c59 + 1) + 1)) [some (.ref (wad (gc Γ SRV ad lL) 109)), some (.ref (wad (gc Γ SRV ad lL) 108))] [.ref (wad (gc Γ SRV ad lL) 210)] 350
    refine x_pop (C.gc krV ad lL) rfl (dkAt dk_X12_init_3 39 rfl) 351 rfl ?_
    obtain ⟨hc9, hf⟩ := if_some hf
    exact dv_vret2 C E (h00.trans hag hl0) hf hc9 (Nat.mul_le_mul_left _ hc9) (dkAt dk_X12_init_3 40 rfl)
  · obtain ⟨hc9, hf⟩ := if_some hf
    exact dv_vret2 C E (h00.trans hag hl0) hf hc9 (Nat.mul_le_mul_left _ hc9) (dkAt dk_X12_init_3 22 rfl)
set_option maxRecDepth 100000 in
theorem c_X12_init {Γ : WC} (hT : HT Γ) (hQ : HQ Γ) {b LX : Nat} {xs : Nat → Int32} (hX : HX0 Γ b LX xs) {Z : Nat} {M : Mem} (hz : ZE M) {rM : Unit × Mem} (hf : f_X12_init_t shL Z LX xs (mH M) = some rM) : CtX Γ b KE SRV yX12_init cX12_init 4 none (rmL 10 700 (2200 * 700)) [108, 109] lL [.inr 109, .inr 108] M none rM.2 := by
  refine mkX hT.1 (own := RX12) rfl (by decide) (fun _ => Nat.le_of_ble_eq_true rfl) (fun ad0 X hb C hI0 E => ?_)
  have hI := hI0 rfl
  obtain ⟨ad, had⟩ : ∃ ad, ad = ad0 := ⟨_, rfl⟩
  have hag : agr [108, 109] ad0 ad := by rw [had]; exact agr.rfl
  rw [← had]
  change G (gc Γ KE ad [108, 109]) X M 0 0 [some (.ref (ad 109)), some (.ref (ad 108))] [] 0
  refine x_aload_n (C.gc krE ad [108, 109]) rfl rfl (dkAt dk_X12_init_0 0 rfl) 1 rfl ?_
  refine d_obj C lo_RX12_1 mi_obj cw_obj ⟨Nat.le_of_ble_eq_true rfl, Nat.le_of_ble_eq_true rfl⟩ (Nat.le_of_ble_eq_true rfl) (dkAt dk_X12_init_0 1 rfl) 4 rfl ?_
  refine x_aload_n (C.gc krE ad [108, 109]) rfl rfl (dkAt dk_X12_init_0 2 rfl) 5 rfl ?_
  refine GK (fun hKE => ?_)
  refine d_new C (n := 210) (ci := 15) (N := 4) rfl rc15 uw15 tyJ4_ok kd_15 kl_RX12_7 ki_15 kn_15 ⟨⟨by decide, by decide⟩, hz.1 210 (by decide), fun o _ k z => absurd (hKE o k 210 z) (by decide)⟩ ⟨by decide, by decide⟩ hag (fun _ h => h) (L := [some (.inr 109), some (.inr 108)]) (st := [.inr 109]) rfl rfl (sv12 (by decide) (by decide) rfl) (sw12 (by decide) (by decide) (Or.inr trivial) rfl) (dkAt dk_X12_init_0 3 rfl) 8 rfl rfl rfl (fun ad hag => ?_)
  change G (gc Γ KE ad [108, 109, 210]) X M 1 4 [some (.ref (ad 109)), some (.ref (ad 108))] [.ref (ad 210), .ref (ad 109)] 8
  refine x_dup (C.gc krE ad [108, 109, 210]) rfl (dkAt dk_X12_init_0 4 rfl) 9 rfl ?_
  refine x_ldcS (C.gc krE ad [108, 109, 210]) (hT.2.st (i := 0) rfl) (dkAt dk_X12_init_0 5 rfl) 11 rfl ?_
  refine d_cI C (cb_new4 hT krE (by decide) (by decide) (by decide) lbS (hz.1 210 (by decide)) (hz.1 211 (by decide)) (hz.1 300 (by decide)) (fun M hM o _ k z => absurd (hM o k 211 z) (by decide)) keS) mw_J4_init_a7421 ln_RX12_11 mii_J4_init_a7421 ⟨by decide, by decide, by decide, by decide⟩ rfl hag (by decide) (L := [some (.inr 109), some (.inr 108)]) (st := [.inr 210, .inr 109]) rfl rfl (fun v hv => by simp only [List.mem_cons, List.not_mem_nil, or_false, Option.some.injEq] at hv; rcases hv with rfl | rfl <;> exact ⟨Or.inl (by decide), by decide⟩) (fun v hv => by simp only [List.mem_cons, List.not_mem_nil, or_false] at hv; rcases hv with rfl | rfl <;> exact ⟨Or.inl (by decide), by decide⟩) (Nat.le_of_ble_eq_true rfl) (dkAt dk_X12_init_0 6 rfl) 14 rfl (cs1 := 3) (sl1 := 2233) rfl rfl (fun _ ad hag => ?_)
  refine G.K (K1 := KT) trivial ?_
  change G (gc Γ KT ad (lV 110)) X (mI0 M) 3 2233 [some (.ref (ad 109)), some (.ref (ad 108))] [.ref (ad 210), .ref (ad 109)] 14
  refine x_putFR (C.gc KR.tt ad (lV 110)) hI (kk := some) (rM := (mI1 M)) (fun _ _ => trivial) pkf_RX12_14 ⟨_, rfl⟩ (ov (by omega) (by decide) rfl) (dkAt dk_X12_init_0 7 rfl) 17 rfl rfl (fun M1 hM => ?_)
  cases hM
  change G (gc Γ KT ad (lV 110)) X (mI1 M) 3 2233 [some (.ref (ad 109)), some (.ref (ad 108))] [] 17
  refine x_aload_n (C.gc KR.tt ad (lV 110)) rfl rfl (dkAt dk_X12_init_0 8 rfl) 18 rfl ?_
  refine x_iconst (C.gc KR.tt ad (lV 110)) (v := (3 : Int32)) (by decide) (dkAt dk_X12_init_0 9 rfl) 19 rfl ?_
  refine d_newa C (n := 110) (k := 0) (N := 3) (ty := .int) rfl (by decide) rfl ka_int rfl (fun _ => rfl) ⟨by decide, by decide, by decide⟩ (((mI1_z hz)).nz (by decide) (by decide)) ⟨by decide, by decide⟩ hag lV_sub (L := [some (.inr 109), some (.inr 108)]) (st := [.inr 109]) rfl rfl (svv rfl) (svw rfl) (dkAt dk_X12_init_0 10 rfl) 21 rfl (cs1 := 4) (sl1 := 2236) rfl rfl (fun ad hag => ?_)
  change G (gc Γ KT ad (lV 111)) X (mI1 M) 4 2236 [some (.ref (ad 109)), some (.ref (ad 108))] [.ref (ad 110), .ref (ad 109)] 21
  refine x_putFR (C.gc KR.tt ad (lV 111)) hI (kk := some) (rM := (mI2 M)) (fun _ _ => trivial) pkf_RX12_20 ⟨_, rfl⟩ (ov (by omega) (by decide) rfl) (dkAt dk_X12_init_0 11 rfl) 24 rfl rfl (fun M1 hM => ?_)
  cases hM
  change G (gc Γ KT ad (lV 111)) X (mI2 M) 4 2236 [some (.ref (ad 109)), some (.ref (ad 108))] [] 24
  refine x_aload_n (C.gc KR.tt ad (lV 111)) rfl rfl (dkAt dk_X12_init_0 12 rfl) 25 rfl ?_
  refine x_bipush (C.gc KR.tt ad (lV 111)) (v := (6 : Int32)) (by decide) (dkAt dk_X12_init_0 13 rfl) 27 rfl ?_
  refine d_newa C (n := 111) (k := 0) (N := 6) (ty := .int) rfl (by decide) rfl ka_int rfl (fun _ => rfl) ⟨by decide, by decide, by decide⟩ (((mI2_z hz)).nz (by decide) (by decide)) ⟨by decide, by decide⟩ hag lV_sub (L := [some (.inr 109), some (.inr 108)]) (st := [.inr 109]) rfl rfl (svv rfl) (svw rfl) (dkAt dk_X12_init_0 14 rfl) 29 rfl (cs1 := 5) (sl1 := 2242) rfl rfl (fun ad hag => ?_)
  change G (gc Γ KT ad (lV 112)) X (mI2 M) 5 2242 [some (.ref (ad 109)), some (.ref (ad 108))] [.ref (ad 111), .ref (ad 109)] 29
  refine x_putFR (C.gc KR.tt ad (lV 112)) hI (kk := some) (rM := (mI3 M)) (fun _ _ => trivial) pkf_RX12_24 ⟨_, rfl⟩ (ov (by omega) (by decide) rfl) (dkAt dk_X12_init_0 15 rfl) 32 rfl rfl (fun M1 hM => ?_)
  cases hM
  change G (gc Γ KT ad (lV 112)) X (mI3 M) 5 2242 [some (.ref (ad 109)), some (.ref (ad 108))] [] 32
  refine x_aload_n (C.gc KR.tt ad (lV 112)) rfl rfl (dkAt dk_X12_init_0 16 rfl) 33 rfl ?_
  refine x_bipush (C.gc KR.tt ad (lV 112)) (v := (6 : Int32)) (by decide) (dkAt dk_X12_init_0 17 rfl) 35 rfl ?_
  refine x_iconst (C.gc KR.tt ad (lV 112)) (v := (3 : Int32)) (by decide) (dkAt dk_X12_init_0 18 rfl) 36 rfl ?_
  refine d_grid2 C (ty := .int) (cA := wA Γ 6) (c1 := wA Γ 0) (a' := 6) (b' := 3) kq_RX12_27 hQ.1.2 (mzK_ii hQ) rfl rfl rfl (((mI3_z hz)).gz2 (by decide) (by decide)) (gc2 (kA := 1) (kI := 0) (by decide) rfl (by decide) (fun i hi k => ((((mI3_z hz)).1 (112 + i) (by omega) (by omega)).1 k))) ⟨rfl, by decide⟩ (fun _ => trivial) ⟨by decide, by decide⟩ hag lV_sub (L := [some (.inr 109), some (.inr 108)]) (st := [.inr 109]) rfl rfl (svv rfl) (svw rfl) (dkAt dk_X12_init_0 19 rfl) 40 rfl (cs1 := 12) (sl1 := 2266) rfl rfl (fun ad hag => ?_)
  change G (gc Γ KT ad (lV 119)) X (mI4 M) 12 2266 [some (.ref (ad 109)), some (.ref (ad 108))] [.ref (ad 112), .ref (ad 109)] 40
  refine x_putFR (C.gc KR.tt ad (lV 119)) hI (kk := some) (rM := (mI5 M)) (fun _ _ => trivial) pkf_RX12_29 ⟨_, rfl⟩ (ov (by omega) (by decide) rfl) (dkAt dk_X12_init_0 20 rfl) 43 rfl rfl (fun M1 hM => ?_)
  cases hM
  change G (gc Γ KT ad (lV 119)) X (mI5 M) 12 2266 [some (.ref (ad 109)), some (.ref (ad 108))] [] 43
  refine x_aload_n (C.gc KR.tt ad (lV 119)) rfl rfl (dkAt dk_X12_init_0 21 rfl) 44 rfl ?_
  refine x_bipush (C.gc KR.tt ad (lV 119)) (v := (6 : Int32)) (by decide) (dkAt dk_X12_init_0 22 rfl) 46 rfl ?_
  refine x_iconst (C.gc KR.tt ad (lV 119)) (v := (3 : Int32)) (by decide) (dkAt dk_X12_init_0 23 rfl) 47 rfl ?_
  refine d_grid2 C (ty := .int) (cA := wA Γ 6) (c1 := wA Γ 0) (a' := 6) (b' := 3) kq_RX12_27 hQ.1.2 (mzK_ii hQ) rfl rfl rfl (((mI5_z hz)).gz2 (by decide) (by decide)) (gc2 (kA := 1) (kI := 0) (by decide) rfl (by decide) (fun i hi k => ((((mI5_z hz)).1 (119 + i) (by omega) (by omega)).1 k))) ⟨rfl, by decide⟩ (fun _ => trivial) ⟨by decide, by decide⟩ hag lV_sub (L := [some (.inr 109), some (.inr 108)]) (st := [.inr 109]) rfl rfl (svv rfl) (svw rfl) (dkAt dk_X12_init_0 24 rfl) 51 rfl (cs1 := 19) (sl1 := 2290) rfl rfl (fun ad hag => ?_)
  change G (gc Γ KT ad (lV 126)) X (mI6 M) 19 2290 [some (.ref (ad 109)), some (.ref (ad 108))] [.ref (ad 119), .ref (ad 109)] 51
  refine x_putFR (C.gc KR.tt ad (lV 126)) hI (kk := some) (rM := (mI7 M)) (fun _ _ => trivial) pkf_RX12_32 ⟨_, rfl⟩ (ov (by omega) (by decide) rfl) (dkAt dk_X12_init_0 25 rfl) 54 rfl rfl (fun M1 hM => ?_)
  cases hM
  change G (gc Γ KT ad (lV 126)) X (mI7 M) 19 2290 [some (.ref (ad 109)), some (.ref (ad 108))] [] 54
  refine x_aload_n (C.gc KR.tt ad (lV 126)) rfl rfl (dkAt dk_X12_init_0 26 rfl) 55 rfl ?_
  refine x_bipush (C.gc KR.tt ad (lV 126)) (v := (6 : Int32)) (by decide) (dkAt dk_X12_init_0 27 rfl) 57 rfl ?_
  refine x_iconst (C.gc KR.tt ad (lV 126)) (v := (3 : Int32)) (by decide) (dkAt dk_X12_init_0 28 rfl) 58 rfl ?_
  refine x_iconst (C.gc KR.tt ad (lV 126)) (v := (3 : Int32)) (by decide) (dkAt dk_X12_init_0 29 rfl) 59 rfl ?_
  refine d_grid3 C (ty := .int) (cA := wA Γ 7) (c1 := wA Γ 6) (c2 := wA Γ 0) (a' := 6) (b' := 3) (f' := 3) kq_RX12_35 hQ.2.1.2 (mzK_iii hQ (by decide) (by decide)) rfl rfl rfl rfl (((mI7_z hz)).gz3 (by decide) (by decide)) (gc3 (n := 3) rfl (by decide) (by decide) (fun i hi k => ((((mI7_z hz)).1 (126 + i) (by omega) (by omega)).1 k))) ⟨rfl, by decide⟩ (fun _ => trivial) ⟨by decide, by decide⟩ hag lV_sub (L := [some (.inr 109), some (.inr 108)]) (st := [.inr 109]) rfl rfl (svv rfl) (svw rfl) (dkAt dk_X12_init_0 30 rfl) 63 rfl (cs1 := 44) (sl1 := 2368) rfl rfl (fun ad hag => ?_)
  change G (gc Γ KT ad (lV 151)) X (mI8 M) 44 2368 [some (.ref (ad 109)), some (.ref (ad 108))] [.ref (ad 126), .ref (ad 109)] 63
  refine x_putFR (C.gc KR.tt ad (lV 151)) hI (kk := some) (rM := (mI9 M)) (fun _ _ => trivial) pkf_RX12_37 ⟨_, rfl⟩ (ov (by omega) (by decide) rfl) (dkAt dk_X12_init_0 31 rfl) 66 rfl rfl (fun M1 hM => ?_)
  cases hM
  change G (gc Γ KT ad (lV 151)) X (mI9 M) 44 2368 [some (.ref (ad 109)), some (.ref (ad 108))] [] 66
  refine x_aload_n (C.gc KR.tt ad (lV 151)) rfl rfl (dkAt dk_X12_init_0 32 rfl) 67 rfl ?_
  refine x_bipush (C.gc KR.tt ad (lV 151)) (v := (6 : Int32)) (by decide) (dkAt dk_X12_init_0 33 rfl) 69 rfl ?_
  refine x_iconst (C.gc KR.tt ad (lV 151)) (v := (3 : Int32)) (by decide) (dkAt dk_X12_init_0 34 rfl) 70 rfl ?_
  refine x_bipush (C.gc KR.tt ad (lV 151)) (v := (6 : Int32)) (by decide) (dkAt dk_X12_init_0 35 rfl) 72 rfl ?_
  refine d_grid3 C (ty := .int) (cA := wA Γ 7) (c1 := wA Γ 6) (c2 := wA Γ 0) (a' := 6) (b' := 3) (f' := 6) kq_RX12_35 hQ.2.1.2 (mzK_iii hQ (by decide) (by decide)) rfl rfl rfl rfl (((mI9_z hz)).gz3 (by decide) (by decide)) (gc3 (n := 6) rfl (by decide) (by decide) (fun i hi k => ((((mI9_z hz)).1 (151 + i) (by omega) (by omega)).1 k))) ⟨rfl, by decide⟩ (fun _ => trivial) ⟨by decide, by decide⟩ hag lV_sub (L := [some (.inr 109), some (.inr 108)]) (st := [.inr 109]) rfl rfl (svv rfl) (svw rfl) (dkAt dk_X12_init_0 36 rfl) 76 rfl (cs1 := 69) (sl1 := 2500) rfl rfl (fun ad hag => ?_)
  change G (gc Γ KT ad (lV 176)) X (mI10 M) 69 2500 [some (.ref (ad 109)), some (.ref (ad 108))] [.ref (ad 151), .ref (ad 109)] 76
  refine x_putFR (C.gc KR.tt ad (lV 176)) hI (kk := some) (rM := (mI11 M)) (fun _ _ => trivial) pkf_RX12_40 ⟨_, rfl⟩ (ov (by omega) (by decide) rfl) (dkAt dk_X12_init_0 37 rfl) 79 rfl rfl (fun M1 hM => ?_)
  cases hM
  change G (gc Γ KT ad (lV 176)) X (mI11 M) 69 2500 [some (.ref (ad 109)), some (.ref (ad 108))] [] 79
  refine x_aload_n (C.gc KR.tt ad (lV 176)) rfl rfl (dkAt dk_X12_init_0 38 rfl) 80 rfl ?_
  refine x_bipush (C.gc KR.tt ad (lV 176)) (v := (6 : Int32)) (by decide) (dkAt dk_X12_init_0 39 rfl) 82 rfl ?_
  refine x_iconst (C.gc KR.tt ad (lV 176)) (v := (3 : Int32)) (by decide) (dkAt dk_X12_init_0 40 rfl) 83 rfl ?_
  refine x_bipush (C.gc KR.tt ad (lV 176)) (v := (7 : Int32)) (by decide) (dkAt dk_X12_init_0 41 rfl) 85 rfl ?_
  refine d_grid3 C (ty := .int) (cA := wA Γ 7) (c1 := wA Γ 6) (c2 := wA Γ 0) (a' := 6) (b' := 3) (f' := 7) kq_RX12_35 hQ.2.1.2 (mzK_iii hQ (by decide) (by decide)) rfl rfl rfl rfl (((mI11_z hz)).gz3 (by decide) (by decide)) (gc3 (n := 7) rfl (by decide) (by decide) (fun i hi k => ((((mI11_z hz)).1 (176 + i) (by omega) (by omega)).1 k))) ⟨rfl, by decide⟩ (fun _ => trivial) ⟨by decide, by decide⟩ hag lV_sub (L := [some (.inr 109), some (.inr 108)]) (st := [.inr 109]) rfl rfl (svv rfl) (svw rfl) (dkAt dk_X12_init_0 42 rfl) 89 rfl (cs1 := 94) (sl1 := 2650) rfl rfl (fun ad hag => ?_)
  change G (gc Γ KT ad (lV 201)) X (mI12 M) 94 2650 [some (.ref (ad 109)), some (.ref (ad 108))] [.ref (ad 176), .ref (ad 109)] 89
  refine x_putFR (C.gc KR.tt ad (lV 201)) hI (kk := some) (rM := (mI13 M)) (fun _ _ => trivial) pkf_RX12_43 ⟨_, rfl⟩ (ov (by omega) (by decide) rfl) (dkAt dk_X12_init_0 43 rfl) 92 rfl rfl (fun M1 hM => ?_)
  cases hM
  change G (gc Γ KT ad (lV 201)) X (mI13 M) 94 2650 [some (.ref (ad 109)), some (.ref (ad 108))] [] 92
  refine x_aload_n (C.gc KR.tt ad (lV 201)) rfl rfl (dkAt dk_X12_init_0 44 rfl) 93 rfl ?_
  refine x_bipush (C.gc KR.tt ad (lV 201)) (v := (6 : Int32)) (by decide) (dkAt dk_X12_init_0 45 rfl) 95 rfl ?_
  refine x_iconst (C.gc KR.tt ad (lV 201)) (v := (3 : Int32)) (by decide) (dkAt dk_X12_init_0 46 rfl) 96 rfl ?_
  refine d_grid2 C (ty := .boolean) (cA := wA Γ 8) (c1 := wA Γ 3) (a' := 6) (b' := 3) kq_RX12_46 hQ.2.2.1.2 (mzK_zz hQ) rfl rfl rfl (((mI13_z hz)).gz2 (by decide) (by decide)) (gc2 (kA := 3) (kI := 3) (by decide) rfl (by decide) (fun i hi k => ((((mI13_z hz)).1 (201 + i) (by omega) (by omega)).1 k))) ⟨rfl, by decide⟩ (fun _ => trivial) ⟨by decide, by decide⟩ hag lV_sub (L := [some (.inr 109), some (.inr 108)]) (st := [.inr 109]) rfl rfl (svv rfl) (svw rfl) (dkAt dk_X12_init_0 47 rfl) 100 rfl (cs1 := 101) (sl1 := 2674) rfl rfl (fun ad hag => ?_)
  change G (gc Γ KT ad (lV 208)) X (mI14 M) 101 2674 [some (.ref (ad 109)), some (.ref (ad 108))] [.ref (ad 201), .ref (ad 109)] 100
  refine x_putFR (C.gc KR.tt ad (lV 208)) hI (kk := some) (rM := (mI15 M)) (fun _ _ => trivial) pkf_RX12_48 ⟨_, rfl⟩ (ov (by omega) (by decide) rfl) (dkAt dk_X12_init_1 0 rfl) 103 rfl rfl (fun M1 hM => ?_)
  cases hM
  change G (gc Γ KT ad (lV 208)) X (mI15 M) 101 2674 [some (.ref (ad 109)), some (.ref (ad 108))] [] 103
  refine x_aload_n (C.gc KR.tt ad (lV 208)) rfl rfl (dkAt dk_X12_init_1 1 rfl) 104 rfl ?_
  refine x_iconst (C.gc KR.tt ad (lV 208)) (v := (-1 : Int32)) (by decide) (dkAt dk_X12_init_1 2 rfl) 105 rfl ?_
  refine x_putIv (C.gc KR.tt ad (lV 208)) pk_RX12_51 ⟨_, rfl⟩ (ov (by omega) (by decide) rfl) (dkAt dk_X12_init_1 3 rfl) 108 rfl ?_
  change G (gc Γ KT ad (lV 208)) X (mI16 M) 101 2674 [some (.ref (ad 109)), some (.ref (ad 108))] [] 108
  refine x_aload_n (C.gc KR.tt ad (lV 208)) rfl rfl (dkAt dk_X12_init_1 4 rfl) 109 rfl ?_
  refine x_bipush (C.gc KR.tt ad (lV 208)) (v := (6 : Int32)) (by decide) (dkAt dk_X12_init_1 5 rfl) 111 rfl ?_
  refine d_newa C (n := 208) (k := 0) (N := 6) (ty := .int) rfl (by decide) rfl ka_int rfl (fun _ => rfl) ⟨by decide, by decide, by decide⟩ (((mI16_z hz)).nz (by decide) (by decide)) ⟨by decide, by decide⟩ hag lV_sub (L := [some (.inr 109), some (.inr 108)]) (st := [.inr 109]) rfl rfl (svv rfl) (svw rfl) (dkAt dk_X12_init_1 6 rfl) 113 rfl (cs1 := 102) (sl1 := 2680) rfl rfl (fun ad hag => ?_)
  change G (gc Γ KT ad (lV 209)) X (mI16 M) 102 2680 [some (.ref (ad 109)), some (.ref (ad 108))] [.ref (ad 208), .ref (ad 109)] 113
  refine x_putFR (C.gc KR.tt ad (lV 209)) hI (kk := some) (rM := (mI17 M)) (fun _ _ => trivial) pkf_RX12_55 ⟨_, rfl⟩ (ov (by omega) (by decide) rfl) (dkAt dk_X12_init_1 7 rfl) 116 rfl rfl (fun M1 hM => ?_)
  cases hM
  change G (gc Γ KT ad (lV 209)) X (mI17 M) 102 2680 [some (.ref (ad 109)), some (.ref (ad 108))] [] 116
  refine x_aload_n (C.gc KR.tt ad (lV 209)) rfl rfl (dkAt dk_X12_init_1 8 rfl) 117 rfl ?_
  refine x_iconst (C.gc KR.tt ad (lV 209)) (v := (5 : Int32)) (by decide) (dkAt dk_X12_init_1 9 rfl) 118 rfl ?_
  refine d_newa C (n := 209) (k := 0) (N := 5) (ty := .int) rfl (by decide) rfl ka_int rfl (fun _ => rfl) ⟨by decide, by decide, by decide⟩ (((mI17_z hz)).nz (by decide) (by decide)) ⟨by decide, by decide⟩ hag lV_sub (L := [some (.inr 109), some (.inr 108)]) (st := [.inr 109]) rfl rfl (svv rfl) (svw rfl) (dkAt dk_X12_init_1 10 rfl) 120 rfl (cs1 := 103) (sl1 := 2685) rfl rfl (fun ad hag => ?_)
  change G (gc Γ KT ad (lV 210)) X (mI17 M) 103 2685 [some (.ref (ad 109)), some (.ref (ad 108))] [.ref (ad 209), .ref (ad 109)] 120
  refine x_putFR (C.gc KR.tt ad (lV 210)) hI (kk := some) (rM := (mI18 M)) (fun _ _ => trivial) pkf_RX12_58 ⟨_, rfl⟩ (ov (by omega) (by decide) rfl) (dkAt dk_X12_init_1 11 rfl) 123 rfl rfl (fun M1 hM => ?_)
  cases hM
  change G (gc Γ KT ad (lV 210)) X (mI18 M) 103 2685 [some (.ref (ad 109)), some (.ref (ad 108))] [] 123
  refine G.K (K1 := SRV) (mH_R hz) ?_
  change G (gc Γ SRV ad lL) X (mH M) _ _ _ _ _
  refine G.wide (cs1 := 110) (sl1 := 2200 * 110) (by decide) (by decide) ?_
  exact t_X12_init hT hX C hI (hag.b hb) hag (by decide +kernel) E hf ad agr.rfl
