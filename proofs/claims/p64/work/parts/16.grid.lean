/-! grids: the row of the machine, the world with the new rows -/
/-- the classes of a grid, as the tables have them -/
def mzK (vm : Vm) (ty : FieldType) : List ClassId → List Int32 → Prop
  | [c], [n] => (¬ n < 0 ∧ n.toNatClampNeg ≤ 1000) ∧ ∃ k comp, vm.classes[c]? = some k ∧ k.kind = .array comp ty
  | c :: c' :: cs, n :: m :: ns => (¬ n < 0 ∧ n.toNatClampNeg ≤ 1000) ∧ (∃ k t0, vm.classes[c]? = some k ∧ k.kind = .array c' t0 ∧ t0.isReference = true) ∧ mzK vm ty (c' :: cs) (m :: ns)
  | _, _ => False
theorem mz_comp (ty : FieldType) : componentBytes ty ≤ 8 := by
  cases ty <;> exact Nat.le_of_ble_eq_true rfl
theorem mzK_ok {vm : Vm} {e : Env} {ty : FieldType} (h1 : e.platform.arrayLengthLimit ≥ 1000) (h2 : e.platform.maxHeapBytes ≥ 8000) : ∀ {ns : List Int32} {cs : List ClassId}, mzK vm ty cs ns → mzOK vm e ty cs ns
  | [], [], h => by simp [mzK] at h
  | [n], [c], h => ⟨h.1.1, h.2, by have := h.1.2; omega, by
      have a := h.1.2
      have b := mz_comp ty
      have c := Nat.mul_le_mul a b
      omega⟩
  | n :: m :: ns, c :: c' :: cs, h => by
    obtain ⟨k, t0, a, b, c⟩ := h.2.1
    refine ⟨h.1.1, ⟨k, t0, a, b, c, ?_⟩, by have := h.1.2; omega, mzK_ok h1 h2 h.2.2⟩
    have d := Nat.mul_le_mul h.1.2 (mz_comp t0)
    omega
  | [n], [], h => by simp [mzK] at h
  | [], c :: cs, h => by simp [mzK] at h
  | [n], c :: c' :: cs, h => by simp [mzK] at h
  | n :: m :: ns, [], h => by simp [mzK] at h
  | n :: m :: ns, [c], h => by simp [mzK] at h
theorem mzK_alike {u v : Vm} (ha : u.Alike v) {ty : FieldType} : ∀ {ns : List Int32} {cs : List ClassId}, mzK u ty cs ns → mzK v ty cs ns
  | [], [], h => by simp [mzK] at h
  | [n], [c], h => by
    obtain ⟨h1, k, comp, h2, h3⟩ := h
    obtain ⟨k', hk', he⟩ := ha.2.2 _ _ h2
    exact ⟨h1, k', comp, hk', by rw [he]; exact h3⟩
  | n :: m :: ns, c :: c' :: cs, h => by
    obtain ⟨h1, ⟨k, t0, h2, h3, h4⟩, h5⟩ := h
    obtain ⟨k', hk', he⟩ := ha.2.2 _ _ h2
    exact ⟨h1, ⟨k', t0, hk', by rw [he]; exact h3, h4⟩, mzK_alike ha h5⟩
  | [n], [], h => by simp [mzK] at h
  | [], c :: cs, h => by simp [mzK] at h
  | [n], c :: c' :: cs, h => by simp [mzK] at h
  | n :: m :: ns, [], h => by simp [mzK] at h
  | n :: m :: ns, [c], h => by simp [mzK] at h
section MZ
variable {p : Program} {l : Launch} {e : Env} {R : Room} {s : State} {m : MethodId} {args : Array Value} {below : List Frame} {meth : Method} {c : Code} {locs : List Loc}
theorem mz_stand : ∀ (L : List Cell) {T : State} {cells slots : Nat}, Stand p l e R s m args below meth c T locs cells slots → Stand p l e R s m args below meth c (mz_push T L) locs (cells + L.length) (slots + mz_sz L)
  | [], T, cells, slots, X => by simpa [mz_push, mz_sz] using X
  | x :: L, T, cells, slots, X => by
    have h := mz_stand L (X.pushed x)
    rw [show cells + (x :: L).length = cells + 1 + L.length by rw [List.length_cons]; omega, show slots + mz_sz (x :: L) = slots + x.slots.size + mz_sz L by simp [mz_sz]; omega]
    exact h
variable {H : Heap} {cells slots : Nat} {Q : State → Prop} {cc : ByteArray} {pc : Nat} {ls : Array Slot} {rest : List Value}
theorem W_multi2 (hexec : p.tables.exec = Jvm.exec) (hb : c.code = cc) {own Cn : String} {index : Nat} {ty : FieldType} {cA c1 : ClassId} {a b : Int32} (hown : s.vm.findClass own = some m.cls) (hclink : (Cond.classLink own index Cn).before args s = true) (hfc : s.vm.findClass Cn = some cA) (hk : mzK s.vm ty [cA, c1] [a, b]) (hdf : fits ty (defaultValue ty) = true)
    (hcells : cells + mzN [a.toNatClampNeg, b.toNatClampNeg] ≤ R.cells) (hslots : slots + mzS [a.toNatClampNeg, b.toNatClampNeg] ≤ R.slots) (hdg : decode cc pc = .ok (.multianewarray index 2, 4))
    (kk : W p l e R s m args below meth c (H ++ (mzC (defaultValue ty) [cA, c1] [a.toNatClampNeg, b.toNatClampNeg] H.size).toArray) locs (cells + mzN [a.toNatClampNeg, b.toNatClampNeg]) (slots + mzS [a.toNatClampNeg, b.toNatClampNeg]) Q (F0 m (pc + 4) ls (.ref H.size :: rest))) : W p l e R s m args below meth c H locs cells slots Q (F0 m pc ls (.int b :: .int a :: rest)) := by
  intro T hT X
  subst hT; subst hb
  have hpl : e.platform.magicAccessors = ({} : Platform).magicAccessors := by rw [X.admits.platform]
  obtain ⟨c0, hfc0, hcl⟩ := Cond.classLink_spec hown hclink e.platform hpl
  cases hfc.symm.trans hfc0
  obtain ⟨hg₁, hwarm₁, hready₁⟩ := State.classEntry (e := e) X.warmed hcl
  generalize T.vm.noted m.cls index (.cls cA) = vm₁ at hg₁ hwarm₁ hready₁
  have hal : s.vm.Alike vm₁ := hwarm₁.alike
  have hok : mzOK vm₁ e ty [cA, c1] [a, b] := mzK_ok (by rw [Launch.admits_arrayLengthLimit X.admits]; decide) (by rw [Launch.admits_maxHeapBytes X.admits]; decide) (mzK_alike hal hk)
  have X₁ := X.noted hwarm₁
  obtain ⟨hr1, hr2⟩ := X.roomAbove hcells hslots
  have hlen := mzOK_len hok
  have XF := mz_stand (mzC (defaultValue ty) [cA, c1] [a.toNatClampNeg, b.toNatClampNeg] T.heap.size) X₁
  rw [mzC_len _ _ _ _ (by simp), mzC_sz _ _ _ _ (by simp)] at XF
  have hh : (mz_push (T.setVm vm₁) (mzC (defaultValue ty) [cA, c1] [a.toNatClampNeg, b.toNatClampNeg] T.heap.size)).heap = T.heap ++ (mzC (defaultValue ty) [cA, c1] [a.toNatClampNeg, b.toNatClampNeg] T.heap.size).toArray := mz_heap _ _
  obtain ⟨t, a1, b1⟩ := kk _ hh XF
  refine ⟨t, ?_, b1⟩
  jvm_step X.here [hexec, hdg]
  simp only [multianewarray.sem, wp_bind', W.resolveClassAt_links (State.method?_setTop (F0 m pc ls (.int b :: .int a :: rest)) X.here.top) hg₁]
  rw [W.popN, if_neg (by decide)]
  refine ⟨F0 m pc ls (.int b :: .int a :: rest), State.topJava?_setTop' (s := T.setVm vm₁) _ X.here.top, [.int a, .int b], rest, rfl, rfl, ?_⟩
  simp only [List.mapM_cons, List.mapM_nil, wp_bind', wp_pure']
  refine mz_make hdf [a, b] [c1] cA vm₁ hok _ _ _ _ rfl (by show T.heap.size + _ ≤ _; exact hr1) (by show T.slotsUsed + _ ≤ _; exact hr2) (fun d' acts' => ?_)
  have eS : ((T.setTop (F0 m pc ls (.int b :: .int a :: rest))).setVm vm₁).setTop { F0 m pc ls (.int b :: .int a :: rest) with stack := rest } = (T.setVm vm₁).setTop { F0 m pc ls (.int b :: .int a :: rest) with stack := rest } := by
    show ((T.setVm vm₁).setTop _).setTop _ = _
    rw [State.setTop_setTop]
  rw [eS, mz_top]
  simp only [wp_bind', W.mark, W.pushRef]
  refine ⟨_, State.topJava?_setTop' _ XF.here.top, ?_⟩
  intro acts
  rw [State.setTop_setTop]
  simp [jvm, XF.here.top]
  exact a1
theorem W_multi3 (hexec : p.tables.exec = Jvm.exec) (hb : c.code = cc) {own Cn : String} {index : Nat} {ty : FieldType} {cA c1 c2 : ClassId} {a b d : Int32} (hown : s.vm.findClass own = some m.cls) (hclink : (Cond.classLink own index Cn).before args s = true) (hfc : s.vm.findClass Cn = some cA) (hk : mzK s.vm ty [cA, c1, c2] [a, b, d]) (hdf : fits ty (defaultValue ty) = true)
    (hcells : cells + mzN [a.toNatClampNeg, b.toNatClampNeg, d.toNatClampNeg] ≤ R.cells) (hslots : slots + mzS [a.toNatClampNeg, b.toNatClampNeg, d.toNatClampNeg] ≤ R.slots) (hdg : decode cc pc = .ok (.multianewarray index 3, 4))
    (kk : W p l e R s m args below meth c (H ++ (mzC (defaultValue ty) [cA, c1, c2] [a.toNatClampNeg, b.toNatClampNeg, d.toNatClampNeg] H.size).toArray) locs (cells + mzN [a.toNatClampNeg, b.toNatClampNeg, d.toNatClampNeg]) (slots + mzS [a.toNatClampNeg, b.toNatClampNeg, d.toNatClampNeg]) Q (F0 m (pc + 4) ls (.ref H.size :: rest))) : W p l e R s m args below meth c H locs cells slots Q (F0 m pc ls (.int d :: .int b :: .int a :: rest)) := by
  intro T hT X
  subst hT; subst hb
  have hpl : e.platform.magicAccessors = ({} : Platform).magicAccessors := by rw [X.admits.platform]
  obtain ⟨c0, hfc0, hcl⟩ := Cond.classLink_spec hown hclink e.platform hpl
  cases hfc.symm.trans hfc0
  obtain ⟨hg₁, hwarm₁, hready₁⟩ := State.classEntry (e := e) X.warmed hcl
  generalize T.vm.noted m.cls index (.cls cA) = vm₁ at hg₁ hwarm₁ hready₁
  have hal : s.vm.Alike vm₁ := hwarm₁.alike
  have hok : mzOK vm₁ e ty [cA, c1, c2] [a, b, d] := mzK_ok (by rw [Launch.admits_arrayLengthLimit X.admits]; decide) (by rw [Launch.admits_maxHeapBytes X.admits]; decide) (mzK_alike hal hk)
  have X₁ := X.noted hwarm₁
  obtain ⟨hr1, hr2⟩ := X.roomAbove hcells hslots
  have hlen := mzOK_len hok
  have XF := mz_stand (mzC (defaultValue ty) [cA, c1, c2] [a.toNatClampNeg, b.toNatClampNeg, d.toNatClampNeg] T.heap.size) X₁
  rw [mzC_len _ _ _ _ (by simp), mzC_sz _ _ _ _ (by simp)] at XF
  have hh : (mz_push (T.setVm vm₁) (mzC (defaultValue ty) [cA, c1, c2] [a.toNatClampNeg, b.toNatClampNeg, d.toNatClampNeg] T.heap.size)).heap = T.heap ++ (mzC (defaultValue ty) [cA, c1, c2] [a.toNatClampNeg, b.toNatClampNeg, d.toNatClampNeg] T.heap.size).toArray := mz_heap _ _
  obtain ⟨t, a1, b1⟩ := kk _ hh XF
  refine ⟨t, ?_, b1⟩
  jvm_step X.here [hexec, hdg]
  simp only [multianewarray.sem, wp_bind', W.resolveClassAt_links (State.method?_setTop (F0 m pc ls (.int d :: .int b :: .int a :: rest)) X.here.top) hg₁]
  rw [W.popN, if_neg (by decide)]
  refine ⟨F0 m pc ls (.int d :: .int b :: .int a :: rest), State.topJava?_setTop' (s := T.setVm vm₁) _ X.here.top, [.int a, .int b, .int d], rest, rfl, rfl, ?_⟩
  simp only [List.mapM_cons, List.mapM_nil, wp_bind', wp_pure']
  refine mz_make hdf [a, b, d] [c1, c2] cA vm₁ hok _ _ _ _ rfl (by show T.heap.size + _ ≤ _; exact hr1) (by show T.slotsUsed + _ ≤ _; exact hr2) (fun d' acts' => ?_)
  have eS : ((T.setTop (F0 m pc ls (.int d :: .int b :: .int a :: rest))).setVm vm₁).setTop { F0 m pc ls (.int d :: .int b :: .int a :: rest) with stack := rest } = (T.setVm vm₁).setTop { F0 m pc ls (.int d :: .int b :: .int a :: rest) with stack := rest } := by
    show ((T.setVm vm₁).setTop _).setTop _ = _
    rw [State.setTop_setTop]
  rw [eS, mz_top]
  simp only [wp_bind', W.mark, W.pushRef]
  refine ⟨_, State.topJava?_setTop' _ XF.here.top, ?_⟩
  intro acts
  rw [State.setTop_setTop]
  simp [jvm, XF.here.top]
  exact a1
end MZ
