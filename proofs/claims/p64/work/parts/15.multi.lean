/-! new T[n][m][k]: the cells that it makes, one behind the other -/
def mz_push (s : State) (L : List Cell) : State := L.foldl State.pushCell s
theorem mz_push_app (s : State) (L K : List Cell) : mz_push (mz_push s L) K = mz_push s (L ++ K) := by
  simp only [mz_push, List.foldl_append]
theorem mz_heap : ∀ (L : List Cell) (s : State), (mz_push s L).heap = s.heap ++ L.toArray
  | [], s => by simp [mz_push]
  | c :: L, s => by
    show (mz_push (s.pushCell c) L).heap = _
    rw [mz_heap L]
    show s.heap.push c ++ L.toArray = _
    rw [Array.push_eq_append, Array.append_assoc]
    simp
def mz_sz (L : List Cell) : Nat := (L.map (fun c => c.slots.size)).sum
theorem mz_used : ∀ (L : List Cell) (s : State), (mz_push s L).slotsUsed = s.slotsUsed + mz_sz L
  | [], s => by simp [mz_push, mz_sz]
  | c :: L, s => by
    show (mz_push (s.pushCell c) L).slotsUsed = _
    rw [mz_used L]
    show s.slotsUsed + c.slots.size + _ = _
    simp only [mz_sz, List.map_cons, List.sum_cons]
    omega
theorem mz_vm : ∀ (L : List Cell) (s : State), (mz_push s L).vm = s.vm
  | [], s => rfl
  | c :: L, s => mz_vm L (s.pushCell c)
theorem mz_size (L : List Cell) (s : State) : (mz_push s L).heap.size = s.heap.size + L.length := by
  rw [mz_heap]
  simp
theorem mz_top (f : JFrame) : ∀ (L : List Cell) (s : State), mz_push (s.setTop f) L = (mz_push s L).setTop f
  | [], s => rfl
  | c :: L, s => mz_top f L (s.pushCell c)
theorem mz_setc (a : Nat) (x : Cell) : ∀ (L : List Cell) (s : State), (mz_push s L).setCell a x = { mz_push s L with heap := (mz_push s L).heap.setIfInBounds a x } := fun _ _ => rfl
theorem mz_ext {s t : State} (h : { s with heap := t.heap } = t) : s.heap = t.heap → s = t := fun e => by rw [← h, ← e]
theorem mz_set (c x : Cell) (hx : x.slots.size = c.slots.size) (K : List Cell) (s : State) : (mz_push s (c :: K)).setCell s.heap.size x = mz_push s (x :: K) := by
  have key : ∀ (K : List Cell) (s t : State), { s with heap := t.heap } = t → { mz_push s K with heap := (mz_push t K).heap } = mz_push t K := by
    intro K
    induction K with
    | nil => exact fun s t h => h
    | cons c K ih =>
      intro s t h
      refine ih (s.pushCell c) (t.pushCell c) ?_
      rw [← h]
      rfl
  have h1 : { s.pushCell c with heap := (s.pushCell x).heap } = s.pushCell x := by
    show ({ s with heap := s.heap.push x, slotsUsed := s.slotsUsed + c.slots.size } : State) = { s with heap := s.heap.push x, slotsUsed := s.slotsUsed + x.slots.size }
    rw [hx]
  have h2 := key K _ _ h1
  have h3 : (mz_push (s.pushCell x) K).heap = (mz_push (s.pushCell c) K).heap.setIfInBounds s.heap.size x := by
    rw [mz_heap, mz_heap]
    show s.heap.push x ++ K.toArray = (s.heap.push c ++ K.toArray).setIfInBounds s.heap.size x
    rw [Array.push_eq_append, Array.push_eq_append, Array.setIfInBounds_append_left (by simp), Array.setIfInBounds_append_right (by simp)]
    simp
  show { mz_push (s.pushCell c) K with heap := (mz_push (s.pushCell c) K).heap.setIfInBounds s.heap.size x } = mz_push (s.pushCell x) K
  rw [← h3]
  exact h2
/-- how many cells, how many places -/
def mzN : List Nat → Nat
  | [] => 0
  | [_] => 1
  | n :: m :: ns => 1 + n * mzN (m :: ns)
def mzS : List Nat → Nat
  | [] => 0
  | [n] => n
  | n :: m :: ns => n + n * mzS (m :: ns)
def mzO (c : ClassId) (n sz h i : Nat) : Cell := { cls := c, slots := (Array.ofFn (n := n) fun j => if j.val < i then .ref (h + 1 + j.val * sz) else .null), vm := .none }
def mzC (dv : Value) : List ClassId → List Nat → Nat → List Cell
  | [c], [n], _ => [{ cls := c, slots := Array.replicate n dv, vm := .none }]
  | c :: c' :: cs, n :: m :: ns, h => mzO c n (mzN (m :: ns)) h n :: (List.range n).flatMap (fun j => mzC dv (c' :: cs) (m :: ns) (h + 1 + j * mzN (m :: ns)))
  | _, _, _ => []
theorem mzO_size (c : ClassId) (n sz h i : Nat) : (mzO c n sz h i).slots.size = n := by simp [mzO]
theorem mzO_0 (c : ClassId) (n sz h : Nat) : mzO c n sz h 0 = { cls := c, slots := Array.replicate n .null, vm := .none } := by
  unfold mzO
  congr 1
  apply Array.ext
  · simp
  · intro i h1 h2
    simp
theorem mzO_succ (c : ClassId) (n sz h i : Nat) : (mzO c n sz h i).setSlot i (.ref (h + 1 + i * sz)) = mzO c n sz h (i + 1) := by
  show ({ cls := c, slots := (Array.ofFn (n := n) fun j => if j.val < i then Value.ref (h + 1 + j.val * sz) else .null).setIfInBounds i _, vm := .none } : Cell) = _
  unfold mzO
  congr 1
  apply Array.ext
  · simp
  · intro j h1 h2
    rw [Array.getElem_setIfInBounds (by simpa using h2)]
    simp only [Array.getElem_ofFn]
    by_cases e : i = j
    · subst e
      simp
    · by_cases h9 : j < i
      · simp [e, h9, Nat.lt_succ_of_lt h9]
      · simp [e, h9, show ¬ j < i + 1 by omega]
/-- the classes are such as the counts want -/
def mzOK (vm : Vm) (e : Env) (ty : FieldType) : List ClassId → List Int32 → Prop
  | [c], [n] => ¬ n < 0 ∧ (∃ k comp, vm.classes[c]? = some k ∧ k.kind = .array comp ty) ∧ ¬ n.toNatClampNeg > e.platform.arrayLengthLimit ∧ ¬ n.toNatClampNeg * componentBytes ty > e.platform.maxHeapBytes
  | c :: c' :: cs, n :: m :: ns => ¬ n < 0 ∧ (∃ k t0, vm.classes[c]? = some k ∧ k.kind = .array c' t0 ∧ t0.isReference = true ∧ ¬ n.toNatClampNeg * componentBytes t0 > e.platform.maxHeapBytes) ∧ ¬ n.toNatClampNeg > e.platform.arrayLengthLimit ∧ mzOK vm e ty (c' :: cs) (m :: ns)
  | _, _ => False
theorem mz_fits {t : FieldType} (h : t.isReference = true) (v : Value) (hv : v = .null ∨ ∃ a, v = .ref a) : fits t v = true := by
  rcases hv with rfl | ⟨a, rfl⟩ <;> cases t <;> simp [FieldType.isReference] at h <;> rfl
theorem mz_flat_len {α β : Type} (f : α → List β) (k : Nat) : ∀ (l : List α), (∀ a, a ∈ l → (f a).length = k) → (l.flatMap f).length = l.length * k
  | [], _ => by simp
  | a :: l, h => by
    rw [List.flatMap_cons, List.length_append, h a List.mem_cons_self, mz_flat_len f k l (fun b hb => h b (List.mem_cons_of_mem _ hb)), List.length_cons, Nat.succ_mul, Nat.add_comm]
theorem mz_sz_app (K L : List Cell) : mz_sz (K ++ L) = mz_sz K + mz_sz L := by simp [mz_sz]
theorem mz_flat_sz {α : Type} (f : α → List Cell) (k : Nat) : ∀ (l : List α), (∀ a, a ∈ l → mz_sz (f a) = k) → mz_sz (l.flatMap f) = l.length * k
  | [], _ => by simp [mz_sz]
  | a :: l, h => by
    rw [List.flatMap_cons, mz_sz_app, h a List.mem_cons_self, mz_flat_sz f k l (fun b hb => h b (List.mem_cons_of_mem _ hb)), List.length_cons, Nat.succ_mul, Nat.add_comm]
theorem mzC_len (dv : Value) : ∀ (ns : List Nat) (cs : List ClassId) (h : Nat), cs.length = ns.length → (mzC dv cs ns h).length = mzN ns
  | [], [], _, _ => rfl
  | [n], [c], _, _ => rfl
  | n :: m :: ns, c :: c' :: cs, h, hl => by
    show (mzO c n _ h n :: _).length = 1 + n * mzN (m :: ns)
    rw [List.length_cons, mz_flat_len _ (mzN (m :: ns)) _ (fun a _ => mzC_len dv (m :: ns) (c' :: cs) _ (by simpa using hl)), List.length_range]
    omega
  | [n], [], _, hl => nomatch hl
  | [], c :: cs, _, hl => nomatch hl
  | [n], c :: c' :: cs, _, hl => nomatch hl
  | n :: m :: ns, [], _, hl => nomatch hl
  | n :: m :: ns, [c], _, hl => nomatch hl
theorem mzC_sz (dv : Value) : ∀ (ns : List Nat) (cs : List ClassId) (h : Nat), cs.length = ns.length → mz_sz (mzC dv cs ns h) = mzS ns
  | [], [], _, _ => rfl
  | [n], [c], _, _ => by simp [mzC, mz_sz, mzS]
  | n :: m :: ns, c :: c' :: cs, h, hl => by
    show mz_sz (mzO c n _ h n :: _) = n + n * mzS (m :: ns)
    have h1 : ∀ (x : Cell) (L : List Cell), mz_sz (x :: L) = x.slots.size + mz_sz L := fun x L => by simp [mz_sz]
    rw [h1, mzO_size, mz_flat_sz _ (mzS (m :: ns)) _ (fun a _ => mzC_sz dv (m :: ns) (c' :: cs) _ (by simpa using hl)), List.length_range]
  | [n], [], _, hl => nomatch hl
  | [], c :: cs, _, hl => nomatch hl
  | [n], c :: c' :: cs, _, hl => nomatch hl
  | n :: m :: ns, [], _, hl => nomatch hl
  | n :: m :: ns, [c], _, hl => nomatch hl
theorem mzOK_len {vm : Vm} {e : Env} {ty : FieldType} : ∀ {ns : List Int32} {cs : List ClassId}, mzOK vm e ty cs ns → cs.length = ns.length
  | [], [], h => by simp [mzOK] at h
  | [n], [c], _ => rfl
  | n :: m :: ns, c :: c' :: cs, h => by
    have := mzOK_len h.2.2.2
    simpa using this
  | [n], [], h => by simp [mzOK] at h
  | [], c :: cs, h => by simp [mzOK] at h
  | [n], c :: c' :: cs, h => by simp [mzOK] at h
  | n :: m :: ns, [], h => by simp [mzOK] at h
  | n :: m :: ns, [c], h => by simp [mzOK] at h
theorem mzOK_pos {vm : Vm} {e : Env} {ty : FieldType} : ∀ {ns : List Int32} {cs : List ClassId}, mzOK vm e ty cs ns → ∀ n, n ∈ ns → ¬ n < 0
  | [], [], h => by simp [mzOK] at h
  | [n], [c], h => fun x hx => by
    rw [List.mem_singleton.mp hx]
    exact h.1
  | n :: m :: ns, c :: c' :: cs, h => fun x hx => by
    rcases List.mem_cons.mp hx with rfl | hx
    · exact h.1
    · exact mzOK_pos h.2.2.2 x hx
  | [n], [], h => by simp [mzOK] at h
  | [], c :: cs, h => by simp [mzOK] at h
  | [n], c :: c' :: cs, h => by simp [mzOK] at h
  | n :: m :: ns, [], h => by simp [mzOK] at h
  | n :: m :: ns, [c], h => by simp [mzOK] at h
theorem mz_make {E : CtlPost} {e : Env} {ty : FieldType} (hdf : fits ty (defaultValue ty) = true) : ∀ (ns : List Int32) (cs : List ClassId) (c : ClassId) (vm : Vm), mzOK vm e ty (c :: cs) ns → ∀ (s : State) (d : Bool) (acts : List Action) (Q : Addr → Pre), s.vm = vm →
    s.heap.size + mzN (ns.map Int32.toNatClampNeg) ≤ e.platform.maxCells → s.slotsUsed + mzS (ns.map Int32.toNatClampNeg) ≤ e.platform.maxSlots →
    (∀ d' acts', Q s.heap.size d' acts' (mz_push s (mzC (defaultValue ty) (c :: cs) (ns.map Int32.toNatClampNeg) s.heap.size))) → wp (multianewarray.make c ns) Q E e d acts s := by
  intro ns
  induction ns with
  | nil =>
    intro cs c vm h
    cases cs <;> simp [mzOK] at h
  | cons n ns ih =>
    intro cs c vm hok s d acts Q hvm hc hs hq
    have hn0 := mzOK_pos hok n List.mem_cons_self
    match ns, cs, hok, ih, hc, hs, hq with
    | [], [], hok, _, hc, hs, hq =>
      obtain ⟨-, ⟨k, comp, hk, hkind⟩, hl, hh⟩ := hok
      rw [multianewarray.make]
      simp only [wp_bind', W.ite, hn0, if_false, wp_pure', W.theClass, hvm, hk, hkind, Option.some.injEq, exists_eq_left']
      refine W.newArray_of (by rw [hvm]; exact hk) hkind hl hh (by have h0 : s.heap.size + 1 ≤ _ := hc; omega) (by have h0 : s.slotsUsed + n.toNatClampNeg ≤ _ := hs; exact h0) hdf (fun acts' => ?_)
      exact hq _ _
    | [], _ :: _, hok, _, _, _, _ => simp [mzOK] at hok
    | m :: ns, [], hok, _, _, _, _ => simp [mzOK] at hok
    | m :: ns, c' :: cs, hok, ih, hc, hs, hq =>
      obtain ⟨-, ⟨k, t0, hk, hkind, href, hh⟩, hl, hok'⟩ := hok
      have hlen := mzOK_len hok'
      have hfind : ((m :: ns).find? (· < 0)) = none := by
        rw [List.find?_eq_none]
        intro x hx
        simpa using mzOK_pos hok' x hx
      simp only [List.map_cons, mzN, mzS] at hc hs
      generalize hsz : mzN (m.toNatClampNeg :: ns.map Int32.toNatClampNeg) = sz at hc
      generalize hss : mzS (m.toNatClampNeg :: ns.map Int32.toNatClampNeg) = ss at hs
      rw [multianewarray.make]
      simp only [wp_bind', W.ite, hn0, if_false, wp_pure', W.theClass, hvm, hk, hkind, Option.some.injEq, exists_eq_left']
      refine W.newArray_of (by rw [hvm]; exact hk) hkind hl hh (by omega) (by omega) (mz_fits href _ (Or.inl rfl)) (fun acts' => ?_)
      simp only [hfind]
      rw [ite_self, wp_bind', Std.Legacy.Range.forIn_eq_forIn_range']
      have hsize : ([:n.toNatClampNeg] : Std.Legacy.Range).size = n.toNatClampNeg := by simp [Std.Legacy.Range.size]
      rw [hsize]
      show wp (forIn (List.range' 0 n.toNatClampNeg 1) PUnit.unit _) _ E e _ _ _
      let subs : Nat → List Cell := fun i => (List.range i).flatMap (fun j => mzC (defaultValue ty) (c' :: cs) ((m :: ns).map Int32.toNatClampNeg) (s.heap.size + 1 + j * sz))
      have hsub : ∀ i, (subs i).length = i * sz := fun i => by
        show ((List.range i).flatMap _).length = _
        rw [mz_flat_len _ sz _ (fun a _ => by rw [mzC_len _ _ _ _ (by simpa using hlen)]; exact hsz), List.length_range]
      have hsub2 : ∀ i, mz_sz (subs i) = i * ss := fun i => by
        show mz_sz ((List.range i).flatMap _) = _
        rw [mz_flat_sz _ ss _ (fun a _ => by rw [mzC_sz _ _ _ _ (by simpa using hlen)]; exact hss), List.length_range]
      have hsucc : ∀ i, subs (i + 1) = subs i ++ mzC (defaultValue ty) (c' :: cs) ((m :: ns).map Int32.toNatClampNeg) (s.heap.size + 1 + i * sz) := fun i => by
        show (List.range (i + 1)).flatMap _ = _
        rw [List.range_succ, List.flatMap_append, List.flatMap_cons, List.flatMap_nil, List.append_nil]
      refine wp_forIn_inv (fun rest s' => ∃ i, i ≤ n.toNatClampNeg ∧ rest = List.range' i (n.toNatClampNeg - i) ∧ s' = mz_push s (mzO c n.toNatClampNeg sz s.heap.size i :: subs i)) _ _ ⟨0, Nat.zero_le _, rfl, ?_⟩ ?_ ?_
      · rw [mzO_0]
        rfl
      · rintro x rest s' d' acts' Q' ⟨i, hi, hl, rfl⟩ hnext
        have hlt : i < n.toNatClampNeg := by
          rcases Nat.lt_or_ge i n.toNatClampNeg with h | h
          · exact h
          · rw [show n.toNatClampNeg - i = 0 from by omega] at hl
            simp at hl
        obtain ⟨rfl, hrest⟩ : x = i ∧ rest = List.range' (i + 1) (n.toNatClampNeg - (i + 1)) := by
          rw [show n.toNatClampNeg - i = (n.toNatClampNeg - (i + 1)) + 1 from by omega, List.range'_succ] at hl
          exact ⟨(List.cons.inj hl).1, (List.cons.inj hl).2⟩
        have hm1 : x * sz + sz ≤ n.toNatClampNeg * sz := by
          have := Nat.mul_le_mul_right sz (show x + 1 ≤ n.toNatClampNeg from hlt)
          rw [Nat.succ_mul] at this
          exact this
        have hm2 : x * ss + ss ≤ n.toNatClampNeg * ss := by
          have := Nat.mul_le_mul_right ss (show x + 1 ≤ n.toNatClampNeg from hlt)
          rw [Nat.succ_mul] at this
          exact this
        have hT1 : (mz_push s (mzO c n.toNatClampNeg sz s.heap.size x :: subs x)).heap.size = s.heap.size + 1 + x * sz := by
          rw [mz_size, List.length_cons, hsub]
          omega
        have hT2 : (mz_push s (mzO c n.toNatClampNeg sz s.heap.size x :: subs x)).slotsUsed = s.slotsUsed + n.toNatClampNeg + x * ss := by
          rw [mz_used]
          have h1 : ∀ (y : Cell) (L : List Cell), mz_sz (y :: L) = y.slots.size + mz_sz L := fun y L => by simp [mz_sz]
          rw [h1, mzO_size, hsub2]
          omega
        simp only [wp_bind']
        refine ih (cs) c' vm hok' _ d' acts' _ ((mz_vm _ _).trans hvm) (by rw [hT1]; show _ + mzN (m.toNatClampNeg :: ns.map Int32.toNatClampNeg) ≤ _; rw [hsz]; omega) (by rw [hT2]; show _ + mzS (m.toNatClampNeg :: ns.map Int32.toNatClampNeg) ≤ _; rw [hss]; omega) (fun d'' acts'' => ?_)
        rw [hT1, mz_push_app, List.cons_append, ← hsucc]
        simp only [wp_bind', W.writeLoc, wp_pure']
        refine ⟨mzO c n.toNatClampNeg sz s.heap.size x, ?_, by simp [mzO], by rw [mzO_size]; exact hlt, ?_, hnext _ _ _ ⟨x + 1, hlt, hrest, ?_⟩⟩
        · rw [mz_heap]
          simp
        · show State.fitsSlot _ c .none x _ = true
          simp [State.fitsSlot, State.slotType?, mz_vm, hvm, hk, hkind, mz_fits href _ (Or.inr ⟨_, rfl⟩)]
        · rw [mzO_succ]
          exact mz_set _ _ (by rw [mzO_size, mzO_size]) _ _
      · rintro s' d' acts' ⟨i, hi, hl, rfl⟩
        have hiN : i = n.toNatClampNeg := by
          rcases Nat.lt_or_ge i n.toNatClampNeg with h | h
          · rw [show n.toNatClampNeg - i = (n.toNatClampNeg - (i + 1)) + 1 from by omega, List.range'_succ] at hl
            cases hl
          · omega
        subst hiN
        simp only [wp_pure']
        have h9 := hq d' acts'
        simp only [List.map_cons, mzC, hsz] at h9
        exact h9
