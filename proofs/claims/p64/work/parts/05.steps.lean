/-! steps: an instruction each; 'hf' says what the function of the method still has to do, K what the machine does then -/
def bd {α β : Type} (x : α) (k : α → β) : β := k x
def jn {α β : Type} (rest : α) (body : α → β) : β := body rest
def inB (i : Int32) (n : Nat) : Bool := decide (0 ≤ i) && decide (i.toNatClampNeg < n)
def cl {α β : Type} (x : Option (α × Mem)) (k : α → Mem → Option β) : Option β := match x with
  | none => none
  | some (a, m) => k a m
def clT {α β : Type} (x : Option (Except Nat α × Mem)) (k : α → Mem → Option β) (ke : Nat → Mem → Option β) : Option β := match x with
  | none => none
  | some (.ok a, m) => k a m
  | some (.error e, m) => ke e m
def rdI {β : Type} (M : Mem) (o n : Nat) (i : Int32) (k : Int32 → Option β) : Option β := if inB i n = true then k (gI M o i.toNatClampNeg) else none
def rdL {β : Type} (M : Mem) (o n : Nat) (i : Int32) (k : Int64 → Option β) : Option β := if inB i n = true then k (gL M o i.toNatClampNeg) else none
def rdD {β : Type} (M : Mem) (o n : Nat) (i : Int32) (k : UInt64 → Option β) : Option β := if inB i n = true then k (gL M o i.toNatClampNeg).toUInt64 else none
def rdR {β : Type} (M : Mem) (o n : Nat) (i : Int32) (sh : List SE) (e : SE) (k : Nat → Option β) : Option β := if inB i n = true then (match gR M o i.toNatClampNeg with
  | some j => if sh[j]? = some e then k j else none
  | none => none) else none
def rfR {β : Type} (M : Mem) (o f : Nat) (sh : List SE) (e : SE) (k : Nat → Option β) : Option β := match gR M o f with
  | some j => if sh[j]? = some e then k j else none
  | none => none
def wrI {β : Type} (M : Mem) (o n : Nat) (i v : Int32) (k : Mem → Option β) : Option β := if inB i n = true then k (sI M o i.toNatClampNeg v) else none
def wrB {β : Type} (M : Mem) (o n : Nat) (i v : Int32) (k : Mem → Option β) : Option β := if inB i n = true then k (sI M o i.toNatClampNeg (vp_nar .byte v)) else none
def wrZ {β : Type} (M : Mem) (o n : Nat) (i v : Int32) (k : Mem → Option β) : Option β := if inB i n = true then k (sI M o i.toNatClampNeg (vp_nar .boolean v)) else none
def wrL {β : Type} (M : Mem) (o n : Nat) (i : Int32) (v : Int64) (k : Mem → Option β) : Option β := if inB i n = true then k (sL M o i.toNatClampNeg v) else none
def wrD {β : Type} (M : Mem) (o n : Nat) (i : Int32) (v : UInt64) (k : Mem → Option β) : Option β := if inB i n = true then k (sL M o i.toNatClampNeg v.toInt64) else none
def wrR {β : Type} (M : Mem) (o n : Nat) (i : Int32) (v : Nat) (k : Mem → Option β) : Option β := if inB i n = true then k (sR M o i.toNatClampNeg (some v)) else none
def nzI {β : Type} (y : Int32) (k : Option β) : Option β := if y = 0 then none else k
def nzL {β : Type} (y : Int64) (k : Option β) : Option β := if y = 0 then none else k
theorem inB_in {i : Int32} {n : Nat} (h : inB i n = true) : vp_in i n := by
  simp only [inB, Bool.and_eq_true, decide_eq_true_eq] at h
  rintro (z | z)
  · exact (Int32.lt_irrefl (Int32.lt_of_lt_of_le z h.1)).elim
  · omega
theorem if_then {c : Prop} {inst : Decidable c} {β : Type} {a b : Option β} {r : β} {P : Prop} (h : (if c then a else b) = some r) (h1 : c → a = some r → P) (h2 : ¬ c → b = some r → P) : P := by
  by_cases z : c
  · rw [if_pos z] at h; exact h1 z h
  · rw [if_neg z] at h; exact h2 z h
theorem if_some {c : Prop} {inst : Decidable c} {β : Type} {a : Option β} {r : β} (h : (if c then a else none) = some r) : c ∧ a = some r := if_then h (fun x y => ⟨x, y⟩) (fun _ y => nomatch y)
/-- a field that an instruction names: class, place, kind -/
def FLk (own : String) (idx ci k kind : Nat) : Prop := ∃ C T N, vwCl[ci]? = some (C, T, N) ∧ k < N ∧ kFd ci k = kind ∧ (∀ w ∈ u_ws C T N, Gd w) ∧ Gd (.fieldLink own idx (T k).1 (T k).2.1 (T k).2.2.1)
/-- .. that may be stored: what its type keeps -/
def FPk (own : String) (idx ci k kind : Nat) (fin : Bool) (ok : Value → Prop) : Prop := ∃ C T N, ∃ t : Nat → FieldType, vwCl[ci]? = some (C, T, N) ∧ k < N ∧ kFd ci k = kind ∧ (∀ w ∈ u_ws C T N, Gd w) ∧ Gd (.fieldLink own idx (T k).1 (T k).2.1 (T k).2.2.1) ∧
  (T k).2.2.2 = fin ∧ (fin = true → (T k).1 = own) ∧ (∀ k, k < N → parseFieldDescriptor (T k).2.2.1 = some (t k)) ∧ (∀ a, a < N → ∀ b, b < N → a ≠ b → (T a).2.1 ≠ (T b).2.1) ∧ (∀ v, ok v → narrow (t k) v = v ∧ fits (t k) v = true)
/-- words of a method that is called -/
def MW (y : MethodName) (bytes : ByteArray) (maxL : Nat) (rt : Option FieldType) (n : Nat) : Prop := Gd (.initialized y.cls) ∧ Gd (.code y bytes maxL rt) ∧ (y.cls ≠ "java/lang/invoke/MethodHandle" ∧ y.cls ≠ "java/lang/invoke/VarHandle") ∧ (parseMethodDescriptor y.desc).map (fun d => d.parameters.length) = some n
theorem fsO_at {ad : Nat → Nat} {M : Mem} {o ci k : Nat} (hk : k < nFd ci) : (fsO ad M o ci)[k]? = some (fVal ad M o k (kFd ci k)) := by
  simp only [fsO, List.getElem?_map, List.getElem?_range hk, Option.map_some]
theorem fsO_len {ad : Nat → Nat} {M : Mem} {o ci : Nat} : (fsO ad M o ci).length = nFd ci := by simp [fsO]
theorem nFd_of {ci : Nat} {C : String} {T : u_T} {N : Nat} (h : vwCl[ci]? = some (C, T, N)) : nFd ci = N := by simp only [nFd, h]
theorem fsO_set {ad : Nat → Nat} {M M' : Mem} {o ci k : Nat} (hk : k < nFd ci) (ho : ∀ j q, j ≠ k → fVal ad M' o j q = fVal ad M o j q) : (fsO ad M o ci).set k (fVal ad M' o k (kFd ci k)) = fsO ad M' o ci := by
  apply List.ext_getElem?
  intro i
  by_cases hi : i = k
  · subst hi
    rw [List.getElem?_set_self (by rw [fsO_len]; exact hk), fsO_at hk]
  · rw [List.getElem?_set_ne (Ne.symm hi)]
    by_cases hl : i < nFd ci
    · rw [fsO_at hl, fsO_at hl, ho i _ hi]
    · rw [List.getElem?_eq_none (by rw [fsO_len]; omega), List.getElem?_eq_none (by rw [fsO_len]; omega)]
section Steps1
variable {Γ : WC} {X : MX} {M : Mem} {cs sl : Nat} {L : List (Option Value)} {st : List Value} {pc : Nat} {cc : ByteArray} {nL : Nat} {own : String} {ret : Option FieldType} {R0 : Room}
theorem x_iadd (C : CX Γ X cc nL own ret R0) {x y : Int32} (d : decode cc pc = .ok (.iadd, 1)) (q : Nat) (hq : pc + 1 = q) (k : G Γ X M cs sl L (.int (x + y) :: st) q) : G Γ X M cs sl L (.int y :: .int x :: st) pc := by
  subst hq
  obtain ⟨p, e, R, s, m, args, below, meth, c, Q⟩ := X
  obtain ⟨hx, hb, hml, hown, hts, hW, hlk, hret, hR, hK, hSs, hG⟩ := C
  intro H locs ls a1 a2 a3 a4 a5
  exact lv_iadd hx hb d (k H locs ls a1 a2 a3 a4 a5)
theorem x_isub (C : CX Γ X cc nL own ret R0) {x y : Int32} (d : decode cc pc = .ok (.isub, 1)) (q : Nat) (hq : pc + 1 = q) (k : G Γ X M cs sl L (.int (x - y) :: st) q) : G Γ X M cs sl L (.int y :: .int x :: st) pc := by
  subst hq
  obtain ⟨p, e, R, s, m, args, below, meth, c, Q⟩ := X
  obtain ⟨hx, hb, hml, hown, hts, hW, hlk, hret, hR, hK, hSs, hG⟩ := C
  intro H locs ls a1 a2 a3 a4 a5
  exact lv_isub hx hb d (k H locs ls a1 a2 a3 a4 a5)
theorem x_imul (C : CX Γ X cc nL own ret R0) {x y : Int32} (d : decode cc pc = .ok (.imul, 1)) (q : Nat) (hq : pc + 1 = q) (k : G Γ X M cs sl L (.int (x * y) :: st) q) : G Γ X M cs sl L (.int y :: .int x :: st) pc := by
  subst hq
  obtain ⟨p, e, R, s, m, args, below, meth, c, Q⟩ := X
  obtain ⟨hx, hb, hml, hown, hts, hW, hlk, hret, hR, hK, hSs, hG⟩ := C
  intro H locs ls a1 a2 a3 a4 a5
  exact lv_imul hx hb d (k H locs ls a1 a2 a3 a4 a5)
theorem x_iand (C : CX Γ X cc nL own ret R0) {x y : Int32} (d : decode cc pc = .ok (.iand, 1)) (q : Nat) (hq : pc + 1 = q) (k : G Γ X M cs sl L (.int (x &&& y) :: st) q) : G Γ X M cs sl L (.int y :: .int x :: st) pc := by
  subst hq
  obtain ⟨p, e, R, s, m, args, below, meth, c, Q⟩ := X
  obtain ⟨hx, hb, hml, hown, hts, hW, hlk, hret, hR, hK, hSs, hG⟩ := C
  intro H locs ls a1 a2 a3 a4 a5
  exact lv_iand hx hb d (k H locs ls a1 a2 a3 a4 a5)
theorem x_ior (C : CX Γ X cc nL own ret R0) {x y : Int32} (d : decode cc pc = .ok (.ior, 1)) (q : Nat) (hq : pc + 1 = q) (k : G Γ X M cs sl L (.int (x ||| y) :: st) q) : G Γ X M cs sl L (.int y :: .int x :: st) pc := by
  subst hq
  obtain ⟨p, e, R, s, m, args, below, meth, c, Q⟩ := X
  obtain ⟨hx, hb, hml, hown, hts, hW, hlk, hret, hR, hK, hSs, hG⟩ := C
  intro H locs ls a1 a2 a3 a4 a5
  exact lv_ior hx hb d (k H locs ls a1 a2 a3 a4 a5)
theorem x_ixor (C : CX Γ X cc nL own ret R0) {x y : Int32} (d : decode cc pc = .ok (.ixor, 1)) (q : Nat) (hq : pc + 1 = q) (k : G Γ X M cs sl L (.int (x ^^^ y) :: st) q) : G Γ X M cs sl L (.int y :: .int x :: st) pc := by
  subst hq
  obtain ⟨p, e, R, s, m, args, below, meth, c, Q⟩ := X
  obtain ⟨hx, hb, hml, hown, hts, hW, hlk, hret, hR, hK, hSs, hG⟩ := C
  intro H locs ls a1 a2 a3 a4 a5
  exact lv_ixor hx hb d (k H locs ls a1 a2 a3 a4 a5)
theorem x_ishl (C : CX Γ X cc nL own ret R0) {x y : Int32} (d : decode cc pc = .ok (.ishl, 1)) (q : Nat) (hq : pc + 1 = q) (k : G Γ X M cs sl L (.int (x <<< (y &&& 31)) :: st) q) : G Γ X M cs sl L (.int y :: .int x :: st) pc := by
  subst hq
  obtain ⟨p, e, R, s, m, args, below, meth, c, Q⟩ := X
  obtain ⟨hx, hb, hml, hown, hts, hW, hlk, hret, hR, hK, hSs, hG⟩ := C
  intro H locs ls a1 a2 a3 a4 a5
  exact lv_ishl hx hb d (k H locs ls a1 a2 a3 a4 a5)
theorem x_ishr (C : CX Γ X cc nL own ret R0) {x y : Int32} (d : decode cc pc = .ok (.ishr, 1)) (q : Nat) (hq : pc + 1 = q) (k : G Γ X M cs sl L (.int (x >>> (y &&& 31)) :: st) q) : G Γ X M cs sl L (.int y :: .int x :: st) pc := by
  subst hq
  obtain ⟨p, e, R, s, m, args, below, meth, c, Q⟩ := X
  obtain ⟨hx, hb, hml, hown, hts, hW, hlk, hret, hR, hK, hSs, hG⟩ := C
  intro H locs ls a1 a2 a3 a4 a5
  exact lv_ishr hx hb d (k H locs ls a1 a2 a3 a4 a5)
theorem x_ladd (C : CX Γ X cc nL own ret R0) {x y : Int64} (d : decode cc pc = .ok (.ladd, 1)) (q : Nat) (hq : pc + 1 = q) (k : G Γ X M cs sl L (.long (x + y) :: st) q) : G Γ X M cs sl L (.long y :: .long x :: st) pc := by
  subst hq
  obtain ⟨p, e, R, s, m, args, below, meth, c, Q⟩ := X
  obtain ⟨hx, hb, hml, hown, hts, hW, hlk, hret, hR, hK, hSs, hG⟩ := C
  intro H locs ls a1 a2 a3 a4 a5
  exact lv_ladd hx hb d (k H locs ls a1 a2 a3 a4 a5)
theorem x_lsub (C : CX Γ X cc nL own ret R0) {x y : Int64} (d : decode cc pc = .ok (.lsub, 1)) (q : Nat) (hq : pc + 1 = q) (k : G Γ X M cs sl L (.long (x - y) :: st) q) : G Γ X M cs sl L (.long y :: .long x :: st) pc := by
  subst hq
  obtain ⟨p, e, R, s, m, args, below, meth, c, Q⟩ := X
  obtain ⟨hx, hb, hml, hown, hts, hW, hlk, hret, hR, hK, hSs, hG⟩ := C
  intro H locs ls a1 a2 a3 a4 a5
  exact lv_lsub hx hb d (k H locs ls a1 a2 a3 a4 a5)
theorem x_lmul (C : CX Γ X cc nL own ret R0) {x y : Int64} (d : decode cc pc = .ok (.lmul, 1)) (q : Nat) (hq : pc + 1 = q) (k : G Γ X M cs sl L (.long (x * y) :: st) q) : G Γ X M cs sl L (.long y :: .long x :: st) pc := by
  subst hq
  obtain ⟨p, e, R, s, m, args, below, meth, c, Q⟩ := X
  obtain ⟨hx, hb, hml, hown, hts, hW, hlk, hret, hR, hK, hSs, hG⟩ := C
  intro H locs ls a1 a2 a3 a4 a5
  exact lv_lmul hx hb d (k H locs ls a1 a2 a3 a4 a5)
theorem x_ineg (C : CX Γ X cc nL own ret R0) {x : Int32} (d : decode cc pc = .ok (.ineg, 1)) (q : Nat) (hq : pc + 1 = q) (k : G Γ X M cs sl L (.int (-x) :: st) q) : G Γ X M cs sl L (.int x :: st) pc := by
  subst hq
  obtain ⟨p, e, R, s, m, args, below, meth, c, Q⟩ := X
  obtain ⟨hx, hb, hml, hown, hts, hW, hlk, hret, hR, hK, hSs, hG⟩ := C
  intro H locs ls a1 a2 a3 a4 a5
  exact lv_ineg hx hb d (k H locs ls a1 a2 a3 a4 a5)
theorem x_i2l (C : CX Γ X cc nL own ret R0) {x : Int32} (d : decode cc pc = .ok (.i2l, 1)) (q : Nat) (hq : pc + 1 = q) (k : G Γ X M cs sl L (.long x.toInt64 :: st) q) : G Γ X M cs sl L (.int x :: st) pc := by
  subst hq
  obtain ⟨p, e, R, s, m, args, below, meth, c, Q⟩ := X
  obtain ⟨hx, hb, hml, hown, hts, hW, hlk, hret, hR, hK, hSs, hG⟩ := C
  intro H locs ls a1 a2 a3 a4 a5
  exact lv_i2l hx hb d rfl (k H locs ls a1 a2 a3 a4 a5)
theorem x_l2i (C : CX Γ X cc nL own ret R0) {x : Int64} (d : decode cc pc = .ok (.l2i, 1)) (q : Nat) (hq : pc + 1 = q) (k : G Γ X M cs sl L (.int x.toInt32 :: st) q) : G Γ X M cs sl L (.long x :: st) pc := by
  subst hq
  obtain ⟨p, e, R, s, m, args, below, meth, c, Q⟩ := X
  obtain ⟨hx, hb, hml, hown, hts, hW, hlk, hret, hR, hK, hSs, hG⟩ := C
  intro H locs ls a1 a2 a3 a4 a5
  exact lv_l2i hx hb d rfl (k H locs ls a1 a2 a3 a4 a5)
theorem x_i2b (C : CX Γ X cc nL own ret R0) {x : Int32} (d : decode cc pc = .ok (.i2b, 1)) (q : Nat) (hq : pc + 1 = q) (k : G Γ X M cs sl L (.int x.toInt8.toInt32 :: st) q) : G Γ X M cs sl L (.int x :: st) pc := by
  subst hq
  obtain ⟨p, e, R, s, m, args, below, meth, c, Q⟩ := X
  obtain ⟨hx, hb, hml, hown, hts, hW, hlk, hret, hR, hK, hSs, hG⟩ := C
  intro H locs ls a1 a2 a3 a4 a5
  exact lv_i2b hx hb d rfl (k H locs ls a1 a2 a3 a4 a5)
theorem x_l2f (C : CX Γ X cc nL own ret R0) {x : Int64} (d : decode cc pc = .ok (.l2f, 1)) (q : Nat) (hq : pc + 1 = q) (k : G Γ X M cs sl L (.float (FP.l2f x) :: st) q) : G Γ X M cs sl L (.long x :: st) pc := by
  subst hq
  obtain ⟨p, e, R, s, m, args, below, meth, c, Q⟩ := X
  obtain ⟨hx, hb, hml, hown, hts, hW, hlk, hret, hR, hK, hSs, hG⟩ := C
  intro H locs ls a1 a2 a3 a4 a5
  exact lv_l2f hx hb d (k H locs ls a1 a2 a3 a4 a5)
theorem x_fconst0 (C : CX Γ X cc nL own ret R0) (d : decode cc pc = .ok (.fconst 0, 1)) (q : Nat) (hq : pc + 1 = q) (k : G Γ X M cs sl L (.float FP.fconst0 :: st) q) : G Γ X M cs sl L st pc := by
  subst hq
  obtain ⟨p, e, R, s, m, args, below, meth, c, Q⟩ := X
  obtain ⟨hx, hb, hml, hown, hts, hW, hlk, hret, hR, hK, hSs, hG⟩ := C
  intro H locs ls a1 a2 a3 a4 a5
  exact lv_fconst0 hx hb d (k H locs ls a1 a2 a3 a4 a5)
theorem x_fdiv (C : CX Γ X cc nL own ret R0) {x y : UInt32} (hn : vf_n32 (FP.fdiv x y)) (d : decode cc pc = .ok (.fdiv, 1)) (q : Nat) (hq : pc + 1 = q) (k : G Γ X M cs sl L (.float (FP.fdiv x y) :: st) q) : G Γ X M cs sl L (.float y :: .float x :: st) pc := by
  subst hq
  obtain ⟨p, e, R, s, m, args, below, meth, c, Q⟩ := X
  obtain ⟨hx, hb, hml, hown, hts, hW, hlk, hret, hR, hK, hSs, hG⟩ := C
  intro H locs ls a1 a2 a3 a4 a5
  exact lv_fdiv hx hb d hn (k H locs ls a1 a2 a3 a4 a5)
theorem x_f2d (C : CX Γ X cc nL own ret R0) {x : UInt32} (hn : vf_n64 (FP.f2d x)) (d : decode cc pc = .ok (.f2d, 1)) (q : Nat) (hq : pc + 1 = q) (k : G Γ X M cs sl L (.double (FP.f2d x) :: st) q) : G Γ X M cs sl L (.float x :: st) pc := by
  subst hq
  obtain ⟨p, e, R, s, m, args, below, meth, c, Q⟩ := X
  obtain ⟨hx, hb, hml, hown, hts, hW, hlk, hret, hR, hK, hSs, hG⟩ := C
  intro H locs ls a1 a2 a3 a4 a5
  exact lv_f2d hx hb d hn (k H locs ls a1 a2 a3 a4 a5)
theorem x_dcmp (C : CX Γ X cc nL own ret R0) {x y : UInt64} {op : CmpOp} (d : decode cc pc = .ok (.dcmp op, 1)) (q : Nat) (hq : pc + 1 = q) (k : G Γ X M cs sl L (.int (Op.cmpValue (FP.dcmp x y) op) :: st) q) : G Γ X M cs sl L (.double y :: .double x :: st) pc := by
  subst hq
  obtain ⟨p, e, R, s, m, args, below, meth, c, Q⟩ := X
  obtain ⟨hx, hb, hml, hown, hts, hW, hlk, hret, hR, hK, hSs, hG⟩ := C
  intro H locs ls a1 a2 a3 a4 a5
  exact lv_dcmp hx hb d (k H locs ls a1 a2 a3 a4 a5)
theorem x_fcmp (C : CX Γ X cc nL own ret R0) {x y : UInt32} {op : CmpOp} (d : decode cc pc = .ok (.fcmp op, 1)) (q : Nat) (hq : pc + 1 = q) (k : G Γ X M cs sl L (.int (Op.cmpValue (FP.fcmp x y) op) :: st) q) : G Γ X M cs sl L (.float y :: .float x :: st) pc := by
  subst hq
  obtain ⟨p, e, R, s, m, args, below, meth, c, Q⟩ := X
  obtain ⟨hx, hb, hml, hown, hts, hW, hlk, hret, hR, hK, hSs, hG⟩ := C
  intro H locs ls a1 a2 a3 a4 a5
  exact lv_fcmp hx hb d (k H locs ls a1 a2 a3 a4 a5)
theorem x_dup (C : CX Γ X cc nL own ret R0) {v : Value} (hv : v.category = 1) (d : decode cc pc = .ok (.dup, 1)) (q : Nat) (hq : pc + 1 = q) (k : G Γ X M cs sl L (v :: v :: st) q) : G Γ X M cs sl L (v :: st) pc := by
  subst hq
  obtain ⟨p, e, R, s, m, args, below, meth, c, Q⟩ := X
  obtain ⟨hx, hb, hml, hown, hts, hW, hlk, hret, hR, hK, hSs, hG⟩ := C
  intro H locs ls a1 a2 a3 a4 a5
  exact lv_dup hx hb d hv (k H locs ls a1 a2 a3 a4 a5)
theorem x_dup2 (C : CX Γ X cc nL own ret R0) {v u : Value} (hv : v.category = 1) (hu : u.category = 1) (d : decode cc pc = .ok (.dup2, 1)) (q : Nat) (hq : pc + 1 = q) (k : G Γ X M cs sl L (v :: u :: v :: u :: st) q) : G Γ X M cs sl L (v :: u :: st) pc := by
  subst hq
  obtain ⟨p, e, R, s, m, args, below, meth, c, Q⟩ := X
  obtain ⟨hx, hb, hml, hown, hts, hW, hlk, hret, hR, hK, hSs, hG⟩ := C
  intro H locs ls a1 a2 a3 a4 a5
  exact lv_dup2_11 hx hb d hv hu (k H locs ls a1 a2 a3 a4 a5)
theorem x_pop2 (C : CX Γ X cc nL own ret R0) {v : Value} (hv : v.category = 2) (d : decode cc pc = .ok (.pop2, 1)) (q : Nat) (hq : pc + 1 = q) (k : G Γ X M cs sl L st q) : G Γ X M cs sl L (v :: st) pc := by
  subst hq
  obtain ⟨p, e, R, s, m, args, below, meth, c, Q⟩ := X
  obtain ⟨hx, hb, hml, hown, hts, hW, hlk, hret, hR, hK, hSs, hG⟩ := C
  intro H locs ls a1 a2 a3 a4 a5
  exact lv_pop2_2 hx hb d hv (k H locs ls a1 a2 a3 a4 a5)
theorem x_pop (C : CX Γ X cc nL own ret R0) {v : Value} (hv : v.category = 1) (d : decode cc pc = .ok (.pop, 1)) (q : Nat) (hq : pc + 1 = q) (k : G Γ X M cs sl L st q) : G Γ X M cs sl L (v :: st) pc := by
  subst hq
  obtain ⟨p, e, R, s, m, args, below, meth, c, Q⟩ := X
  obtain ⟨hx, hb, hml, hown, hts, hW, hlk, hret, hR, hK, hSs, hG⟩ := C
  intro H locs ls a1 a2 a3 a4 a5
  exact lv_pop hx hb d hv (k H locs ls a1 a2 a3 a4 a5)
theorem x_iconst (C : CX Γ X cc nL own ret R0) {n : Int} {v : Int32} (hv : Int32.ofInt n = v) (d : decode cc pc = .ok (.iconst n, 1)) (q : Nat) (hq : pc + 1 = q) (k : G Γ X M cs sl L (.int v :: st) q) : G Γ X M cs sl L st pc := by
  subst hq
  obtain ⟨p, e, R, s, m, args, below, meth, c, Q⟩ := X
  obtain ⟨hx, hb, hml, hown, hts, hW, hlk, hret, hR, hK, hSs, hG⟩ := C
  intro H locs ls a1 a2 a3 a4 a5
  exact lv_iconst hx hb d hv (k H locs ls a1 a2 a3 a4 a5)
theorem x_bipush (C : CX Γ X cc nL own ret R0) {n : Int} {v : Int32} (hv : (Int8.ofInt n).toInt32 = v) (d : decode cc pc = .ok (.bipush n, 2)) (q : Nat) (hq : pc + 2 = q) (k : G Γ X M cs sl L (.int v :: st) q) : G Γ X M cs sl L st pc := by
  subst hq
  obtain ⟨p, e, R, s, m, args, below, meth, c, Q⟩ := X
  obtain ⟨hx, hb, hml, hown, hts, hW, hlk, hret, hR, hK, hSs, hG⟩ := C
  intro H locs ls a1 a2 a3 a4 a5
  exact lv_bipush hx hb d hv (k H locs ls a1 a2 a3 a4 a5)
theorem x_sipush (C : CX Γ X cc nL own ret R0) {n : Int} {v : Int32} (hv : (Int16.ofInt n).toInt32 = v) (d : decode cc pc = .ok (.sipush n, 3)) (q : Nat) (hq : pc + 3 = q) (k : G Γ X M cs sl L (.int v :: st) q) : G Γ X M cs sl L st pc := by
  subst hq
  obtain ⟨p, e, R, s, m, args, below, meth, c, Q⟩ := X
  obtain ⟨hx, hb, hml, hown, hts, hW, hlk, hret, hR, hK, hSs, hG⟩ := C
  intro H locs ls a1 a2 a3 a4 a5
  exact lv_sipush hx hb d hv (k H locs ls a1 a2 a3 a4 a5)
theorem x_lconst (C : CX Γ X cc nL own ret R0) {n : Fin 2} {v : Int64} (hv : Int64.ofNat (n : Nat) = v) (d : decode cc pc = .ok (.lconst n, 1)) (q : Nat) (hq : pc + 1 = q) (k : G Γ X M cs sl L (.long v :: st) q) : G Γ X M cs sl L st pc := by
  subst hq
  obtain ⟨p, e, R, s, m, args, below, meth, c, Q⟩ := X
  obtain ⟨hx, hb, hml, hown, hts, hW, hlk, hret, hR, hK, hSs, hG⟩ := C
  intro H locs ls a1 a2 a3 a4 a5
  exact lv_lconst hx hb d hv (k H locs ls a1 a2 a3 a4 a5)
theorem x_ldc2 (C : CX Γ X cc nL own ret R0) {index : Nat} {v : Int64} (hc : Gd (.constantLong own index v)) (d : decode cc pc = .ok (.ldc2_w index, 3)) (q : Nat) (hq : pc + 3 = q) (k : G Γ X M cs sl L (.long v :: st) q) : G Γ X M cs sl L st pc := by
  subst hq
  obtain ⟨p, e, R, s, m, args, below, meth, c, Q⟩ := X
  obtain ⟨hx, hb, hml, hown, hts, hW, hlk, hret, hR, hK, hSs, hG⟩ := C
  intro H locs ls a1 a2 a3 a4 a5
  exact lv_ldc2 hx hb hown (hts _ hc) d (k H locs ls a1 a2 a3 a4 a5)
theorem x_iload_n (C : CX Γ X cc nL own ret R0) {kf : Fin 4} {i : Nat} {x : Int32} (hi : (kf : Nat) = i) (h : lget L i = some (.int x)) (d : decode cc pc = .ok (.iload_n kf, 1)) (q : Nat) (hq : pc + 1 = q) (k : G Γ X M cs sl L (.int x :: st) q) : G Γ X M cs sl L st pc := by
  subst hq
  obtain ⟨p, e, R, s, m, args, below, meth, c, Q⟩ := X
  obtain ⟨hx, hb, hml, hown, hts, hW, hlk, hret, hR, hK, hSs, hG⟩ := C
  intro H locs ls a1 a2 a3 a4 a5
  exact lv_iload_n hx hb d hi (lO_at a5 h) (k H locs ls a1 a2 a3 a4 a5)
theorem x_iload (C : CX Γ X cc nL own ret R0) {i : Nat} {x : Int32} (h : lget L i = some (.int x)) (d : decode cc pc = .ok (.iload i, 2)) (q : Nat) (hq : pc + 2 = q) (k : G Γ X M cs sl L (.int x :: st) q) : G Γ X M cs sl L st pc := by
  subst hq
  obtain ⟨p, e, R, s, m, args, below, meth, c, Q⟩ := X
  obtain ⟨hx, hb, hml, hown, hts, hW, hlk, hret, hR, hK, hSs, hG⟩ := C
  intro H locs ls a1 a2 a3 a4 a5
  exact lv_iload hx hb d (lO_at a5 h) (k H locs ls a1 a2 a3 a4 a5)
theorem x_lload_n (C : CX Γ X cc nL own ret R0) {kf : Fin 4} {i : Nat} {x : Int64} (hi : (kf : Nat) = i) (h : lget L i = some (.long x)) (d : decode cc pc = .ok (.lload_n kf, 1)) (q : Nat) (hq : pc + 1 = q) (k : G Γ X M cs sl L (.long x :: st) q) : G Γ X M cs sl L st pc := by
  subst hq
  obtain ⟨p, e, R, s, m, args, below, meth, c, Q⟩ := X
  obtain ⟨hx, hb, hml, hown, hts, hW, hlk, hret, hR, hK, hSs, hG⟩ := C
  intro H locs ls a1 a2 a3 a4 a5
  exact lv_lload_n hx hb d hi (lO_at a5 h) (k H locs ls a1 a2 a3 a4 a5)
theorem x_lload (C : CX Γ X cc nL own ret R0) {i : Nat} {x : Int64} (h : lget L i = some (.long x)) (d : decode cc pc = .ok (.lload i, 2)) (q : Nat) (hq : pc + 2 = q) (k : G Γ X M cs sl L (.long x :: st) q) : G Γ X M cs sl L st pc := by
  subst hq
  obtain ⟨p, e, R, s, m, args, below, meth, c, Q⟩ := X
  obtain ⟨hx, hb, hml, hown, hts, hW, hlk, hret, hR, hK, hSs, hG⟩ := C
  intro H locs ls a1 a2 a3 a4 a5
  exact lv_lload hx hb d (lO_at a5 h) (k H locs ls a1 a2 a3 a4 a5)
theorem x_aload_n (C : CX Γ X cc nL own ret R0) {kf : Fin 4} {i : Nat} {x : Nat} (hi : (kf : Nat) = i) (h : lget L i = some (.ref x)) (d : decode cc pc = .ok (.aload_n kf, 1)) (q : Nat) (hq : pc + 1 = q) (k : G Γ X M cs sl L (.ref x :: st) q) : G Γ X M cs sl L st pc := by
  subst hq
  obtain ⟨p, e, R, s, m, args, below, meth, c, Q⟩ := X
  obtain ⟨hx, hb, hml, hown, hts, hW, hlk, hret, hR, hK, hSs, hG⟩ := C
  intro H locs ls a1 a2 a3 a4 a5
  exact lv_aload_n hx hb d hi (lO_at a5 h) (k H locs ls a1 a2 a3 a4 a5)
theorem x_aload (C : CX Γ X cc nL own ret R0) {i : Nat} {x : Nat} (h : lget L i = some (.ref x)) (d : decode cc pc = .ok (.aload i, 2)) (q : Nat) (hq : pc + 2 = q) (k : G Γ X M cs sl L (.ref x :: st) q) : G Γ X M cs sl L st pc := by
  subst hq
  obtain ⟨p, e, R, s, m, args, below, meth, c, Q⟩ := X
  obtain ⟨hx, hb, hml, hown, hts, hW, hlk, hret, hR, hK, hSs, hG⟩ := C
  intro H locs ls a1 a2 a3 a4 a5
  exact lv_aload hx hb d (lO_at a5 h) (k H locs ls a1 a2 a3 a4 a5)
theorem x_fload_n (C : CX Γ X cc nL own ret R0) {kf : Fin 4} {i : Nat} {x : UInt32} (hi : (kf : Nat) = i) (h : lget L i = some (.float x)) (d : decode cc pc = .ok (.fload_n kf, 1)) (q : Nat) (hq : pc + 1 = q) (k : G Γ X M cs sl L (.float x :: st) q) : G Γ X M cs sl L st pc := by
  subst hq
  obtain ⟨p, e, R, s, m, args, below, meth, c, Q⟩ := X
  obtain ⟨hx, hb, hml, hown, hts, hW, hlk, hret, hR, hK, hSs, hG⟩ := C
  intro H locs ls a1 a2 a3 a4 a5
  exact lv_fload_n hx hb d hi (lO_at a5 h) (k H locs ls a1 a2 a3 a4 a5)
theorem x_fload (C : CX Γ X cc nL own ret R0) {i : Nat} {x : UInt32} (h : lget L i = some (.float x)) (d : decode cc pc = .ok (.fload i, 2)) (q : Nat) (hq : pc + 2 = q) (k : G Γ X M cs sl L (.float x :: st) q) : G Γ X M cs sl L st pc := by
  subst hq
  obtain ⟨p, e, R, s, m, args, below, meth, c, Q⟩ := X
  obtain ⟨hx, hb, hml, hown, hts, hW, hlk, hret, hR, hK, hSs, hG⟩ := C
  intro H locs ls a1 a2 a3 a4 a5
  exact lv_fload hx hb d (lO_at a5 h) (k H locs ls a1 a2 a3 a4 a5)
theorem x_istore_n (C : CX Γ X cc nL own ret R0) {k : Fin 4} {i : Nat} {x : Int32} {L1 : List (Option Value)} (d : decode cc pc = .ok (.istore_n k, 1)) (q : Nat) (hq : pc + 1 = q) (hi : (k : Nat) = i) (hn : i < nL) (hL : lset1 L i (.int x) = L1) (kk : G Γ X M cs sl L1 st q) : G Γ X M cs sl L (.int x :: st) pc := by
  subst hq
  obtain ⟨p, e, R, s, m, args, below, meth, c, Q⟩ := X
  obtain ⟨hx, hb, hml, hown, hts, hW, hlk, hret, hR, hK, hSs, hG⟩ := C
  intro H locs ls a1 a2 a3 a4 a5
  subst hL; subst hml
  exact lv_istore_n hx hb d hi a5 hn rfl (fun ls1 h1 => kk H locs ls1 a1 a2 a3 a4 (lO_set1 h1))
theorem x_istore (C : CX Γ X cc nL own ret R0) {i : Nat} {x : Int32} {L1 : List (Option Value)} (d : decode cc pc = .ok (.istore i, 2)) (q : Nat) (hq : pc + 2 = q) (hn : i < nL) (hL : lset1 L i (.int x) = L1) (kk : G Γ X M cs sl L1 st q) : G Γ X M cs sl L (.int x :: st) pc := by
  subst hq
  obtain ⟨p, e, R, s, m, args, below, meth, c, Q⟩ := X
  obtain ⟨hx, hb, hml, hown, hts, hW, hlk, hret, hR, hK, hSs, hG⟩ := C
  intro H locs ls a1 a2 a3 a4 a5
  subst hL; subst hml
  exact lv_istore hx hb d a5 hn rfl (fun ls1 h1 => kk H locs ls1 a1 a2 a3 a4 (lO_set1 h1))
theorem x_lstore_n (C : CX Γ X cc nL own ret R0) {k : Fin 4} {i : Nat} {x : Int64} {L1 : List (Option Value)} (d : decode cc pc = .ok (.lstore_n k, 1)) (q : Nat) (hq : pc + 1 = q) (hi : (k : Nat) = i) (hn : i + 1 < nL) (hL : lset2 L i (.long x) = L1) (kk : G Γ X M cs sl L1 st q) : G Γ X M cs sl L (.long x :: st) pc := by
  subst hq
  obtain ⟨p, e, R, s, m, args, below, meth, c, Q⟩ := X
  obtain ⟨hx, hb, hml, hown, hts, hW, hlk, hret, hR, hK, hSs, hG⟩ := C
  intro H locs ls a1 a2 a3 a4 a5
  subst hL; subst hml
  exact lv_lstore_n hx hb d hi a5 hn rfl (fun ls1 h1 => kk H locs ls1 a1 a2 a3 a4 (lO_set2 h1))
theorem x_lstore (C : CX Γ X cc nL own ret R0) {i : Nat} {x : Int64} {L1 : List (Option Value)} (d : decode cc pc = .ok (.lstore i, 2)) (q : Nat) (hq : pc + 2 = q) (hn : i + 1 < nL) (hL : lset2 L i (.long x) = L1) (kk : G Γ X M cs sl L1 st q) : G Γ X M cs sl L (.long x :: st) pc := by
  subst hq
  obtain ⟨p, e, R, s, m, args, below, meth, c, Q⟩ := X
  obtain ⟨hx, hb, hml, hown, hts, hW, hlk, hret, hR, hK, hSs, hG⟩ := C
  intro H locs ls a1 a2 a3 a4 a5
  subst hL; subst hml
  exact lv_lstore hx hb d a5 hn rfl (fun ls1 h1 => kk H locs ls1 a1 a2 a3 a4 (lO_set2 h1))
theorem x_astore_n (C : CX Γ X cc nL own ret R0) {k : Fin 4} {i : Nat} {x : Nat} {L1 : List (Option Value)} (d : decode cc pc = .ok (.astore_n k, 1)) (q : Nat) (hq : pc + 1 = q) (hi : (k : Nat) = i) (hn : i < nL) (hL : lset1 L i (.ref x) = L1) (kk : G Γ X M cs sl L1 st q) : G Γ X M cs sl L (.ref x :: st) pc := by
  subst hq
  obtain ⟨p, e, R, s, m, args, below, meth, c, Q⟩ := X
  obtain ⟨hx, hb, hml, hown, hts, hW, hlk, hret, hR, hK, hSs, hG⟩ := C
  intro H locs ls a1 a2 a3 a4 a5
  subst hL; subst hml
  exact lv_astore_n hx hb d hi a5 hn rfl (fun ls1 h1 => kk H locs ls1 a1 a2 a3 a4 (lO_set1 h1))
theorem x_astore (C : CX Γ X cc nL own ret R0) {i : Nat} {x : Nat} {L1 : List (Option Value)} (d : decode cc pc = .ok (.astore i, 2)) (q : Nat) (hq : pc + 2 = q) (hn : i < nL) (hL : lset1 L i (.ref x) = L1) (kk : G Γ X M cs sl L1 st q) : G Γ X M cs sl L (.ref x :: st) pc := by
  subst hq
  obtain ⟨p, e, R, s, m, args, below, meth, c, Q⟩ := X
  obtain ⟨hx, hb, hml, hown, hts, hW, hlk, hret, hR, hK, hSs, hG⟩ := C
  intro H locs ls a1 a2 a3 a4 a5
  subst hL; subst hml
  exact lv_astore hx hb d a5 hn rfl (fun ls1 h1 => kk H locs ls1 a1 a2 a3 a4 (lO_set1 h1))
theorem x_fstore_n (C : CX Γ X cc nL own ret R0) {k : Fin 4} {i : Nat} {x : UInt32} {L1 : List (Option Value)} (d : decode cc pc = .ok (.fstore_n k, 1)) (q : Nat) (hq : pc + 1 = q) (hi : (k : Nat) = i) (hn : i < nL) (hL : lset1 L i (.float x) = L1) (kk : G Γ X M cs sl L1 st q) : G Γ X M cs sl L (.float x :: st) pc := by
  subst hq
  obtain ⟨p, e, R, s, m, args, below, meth, c, Q⟩ := X
  obtain ⟨hx, hb, hml, hown, hts, hW, hlk, hret, hR, hK, hSs, hG⟩ := C
  intro H locs ls a1 a2 a3 a4 a5
  subst hL; subst hml
  exact lv_fstore_n hx hb d hi a5 hn rfl (fun ls1 h1 => kk H locs ls1 a1 a2 a3 a4 (lO_set1 h1))
theorem x_fstore (C : CX Γ X cc nL own ret R0) {i : Nat} {x : UInt32} {L1 : List (Option Value)} (d : decode cc pc = .ok (.fstore i, 2)) (q : Nat) (hq : pc + 2 = q) (hn : i < nL) (hL : lset1 L i (.float x) = L1) (kk : G Γ X M cs sl L1 st q) : G Γ X M cs sl L (.float x :: st) pc := by
  subst hq
  obtain ⟨p, e, R, s, m, args, below, meth, c, Q⟩ := X
  obtain ⟨hx, hb, hml, hown, hts, hW, hlk, hret, hR, hK, hSs, hG⟩ := C
  intro H locs ls a1 a2 a3 a4 a5
  subst hL; subst hml
  exact lv_fstore hx hb d a5 hn rfl (fun ls1 h1 => kk H locs ls1 a1 a2 a3 a4 (lO_set1 h1))
theorem x_iinc (C : CX Γ X cc nL own ret R0) {i : Nat} {n : Int} {x v : Int32} {L1 : List (Option Value)} (d : decode cc pc = .ok (.iinc i n, 3)) (q : Nat) (hq : pc + 3 = q) (h : lget L i = some (.int x)) (hv : x + Int32.ofInt n = v) (hn : i < nL) (hL : lset1 L i (.int v) = L1) (kk : G Γ X M cs sl L1 st q) : G Γ X M cs sl L st pc := by
  subst hq
  obtain ⟨p, e, R, s, m, args, below, meth, c, Q⟩ := X
  obtain ⟨hx, hb, hml, hown, hts, hW, hlk, hret, hR, hK, hSs, hG⟩ := C
  intro H locs ls a1 a2 a3 a4 a5
  subst hL; subst hml
  obtain ⟨j, hj⟩ := List.getElem?_of_mem (lO_mem 0 h)
  rw [Nat.zero_add] at hj
  exact lv_iinc hx hb d a5 hj hv hn rfl (fun ls1 h1 => kk H locs ls1 a1 a2 a3 a4 (lO_set1 h1))
theorem x_goto (C : CX Γ X cc nL own ret R0) {off : Int} (tgt : Nat) (d : decode cc pc = .ok (.goto off, 3)) (ht : (pc : Int) + off = (tgt : Int)) (k : G Γ X M cs sl L st tgt) : G Γ X M cs sl L st pc := by
  obtain ⟨p, e, R, s, m, args, below, meth, c, Q⟩ := X
  obtain ⟨hx, hb, hml, hown, hts, hW, hlk, hret, hR, hK, hSs, hG⟩ := C
  intro H locs ls a1 a2 a3 a4 a5
  exact lv_goto hx hb d ht (k H locs ls a1 a2 a3 a4 a5)
end Steps1
section Steps2
variable {Γ : WC} {X : MX} {M : Mem} {cs sl : Nat} {L : List (Option Value)} {st : List Value} {pc : Nat} {cc : ByteArray} {nL : Nat} {own : String} {ret : Option FieldType} {R0 : Room} {β : Type} {rM : β}
theorem x_if_eq (C : CX Γ X cc nL own ret R0) {x : Int32} {off : Int} {a b : Option β} (tgt : Nat) (d : decode cc pc = .ok (.ifCond .eq off, 3)) (q : Nat) (hq : pc + 3 = q) (ht : (pc : Int) + off = (tgt : Int)) (hf : (if x = 0 then a else b) = some rM) (kt : a = some rM → G Γ X M cs sl L st tgt) (kf : b = some rM → G Γ X M cs sl L st q) : G Γ X M cs sl L (.int x :: st) pc := by
  subst hq
  obtain ⟨p, e, R, s, m, args, below, meth, c, Q⟩ := X
  obtain ⟨hx, hb, hml, hown, hts, hW, hlk, hret, hR, hK, hSs, hG⟩ := C
  intro H locs ls a1 a2 a3 a4 a5
  exact lv_if_eq hx hb d ht (fun h => kt (by rw [if_pos h] at hf; exact hf) H locs ls a1 a2 a3 a4 a5) (fun h => kf (by rw [if_neg h] at hf; exact hf) H locs ls a1 a2 a3 a4 a5)
theorem x_if_ne (C : CX Γ X cc nL own ret R0) {x : Int32} {off : Int} {a b : Option β} (tgt : Nat) (d : decode cc pc = .ok (.ifCond .ne off, 3)) (q : Nat) (hq : pc + 3 = q) (ht : (pc : Int) + off = (tgt : Int)) (hf : (if x = 0 then b else a) = some rM) (kt : a = some rM → G Γ X M cs sl L st tgt) (kf : b = some rM → G Γ X M cs sl L st q) : G Γ X M cs sl L (.int x :: st) pc := by
  subst hq
  obtain ⟨p, e, R, s, m, args, below, meth, c, Q⟩ := X
  obtain ⟨hx, hb, hml, hown, hts, hW, hlk, hret, hR, hK, hSs, hG⟩ := C
  intro H locs ls a1 a2 a3 a4 a5
  exact lv_if_ne hx hb d ht (fun h => kt (by rw [if_neg h] at hf; exact hf) H locs ls a1 a2 a3 a4 a5) (fun h => kf (by rw [if_pos h] at hf; exact hf) H locs ls a1 a2 a3 a4 a5)
theorem x_if_lt (C : CX Γ X cc nL own ret R0) {x : Int32} {off : Int} {a b : Option β} (tgt : Nat) (d : decode cc pc = .ok (.ifCond .lt off, 3)) (q : Nat) (hq : pc + 3 = q) (ht : (pc : Int) + off = (tgt : Int)) (hf : (if x < 0 then a else b) = some rM) (kt : a = some rM → G Γ X M cs sl L st tgt) (kf : b = some rM → G Γ X M cs sl L st q) : G Γ X M cs sl L (.int x :: st) pc := by
  subst hq
  obtain ⟨p, e, R, s, m, args, below, meth, c, Q⟩ := X
  obtain ⟨hx, hb, hml, hown, hts, hW, hlk, hret, hR, hK, hSs, hG⟩ := C
  intro H locs ls a1 a2 a3 a4 a5
  exact lv_if_lt hx hb d ht (fun h => kt (by rw [if_pos h] at hf; exact hf) H locs ls a1 a2 a3 a4 a5) (fun h => kf (by rw [if_neg h] at hf; exact hf) H locs ls a1 a2 a3 a4 a5)
theorem x_if_ge (C : CX Γ X cc nL own ret R0) {x : Int32} {off : Int} {a b : Option β} (tgt : Nat) (d : decode cc pc = .ok (.ifCond .ge off, 3)) (q : Nat) (hq : pc + 3 = q) (ht : (pc : Int) + off = (tgt : Int)) (hf : (if 0 ≤ x then a else b) = some rM) (kt : a = some rM → G Γ X M cs sl L st tgt) (kf : b = some rM → G Γ X M cs sl L st q) : G Γ X M cs sl L (.int x :: st) pc := by
  subst hq
  obtain ⟨p, e, R, s, m, args, below, meth, c, Q⟩ := X
  obtain ⟨hx, hb, hml, hown, hts, hW, hlk, hret, hR, hK, hSs, hG⟩ := C
  intro H locs ls a1 a2 a3 a4 a5
  exact lv_if_ge hx hb d ht (fun h => kt (by rw [if_pos h] at hf; exact hf) H locs ls a1 a2 a3 a4 a5) (fun h => kf (by rw [if_neg h] at hf; exact hf) H locs ls a1 a2 a3 a4 a5)
theorem x_if_gt (C : CX Γ X cc nL own ret R0) {x : Int32} {off : Int} {a b : Option β} (tgt : Nat) (d : decode cc pc = .ok (.ifCond .gt off, 3)) (q : Nat) (hq : pc + 3 = q) (ht : (pc : Int) + off = (tgt : Int)) (hf : (if 0 < x then a else b) = some rM) (kt : a = some rM → G Γ X M cs sl L st tgt) (kf : b = some rM → G Γ X M cs sl L st q) : G Γ X M cs sl L (.int x :: st) pc := by
  subst hq
  obtain ⟨p, e, R, s, m, args, below, meth, c, Q⟩ := X
  obtain ⟨hx, hb, hml, hown, hts, hW, hlk, hret, hR, hK, hSs, hG⟩ := C
  intro H locs ls a1 a2 a3 a4 a5
  exact lv_if_gt hx hb d ht (fun h => kt (by rw [if_pos h] at hf; exact hf) H locs ls a1 a2 a3 a4 a5) (fun h => kf (by rw [if_neg h] at hf; exact hf) H locs ls a1 a2 a3 a4 a5)
theorem x_if_le (C : CX Γ X cc nL own ret R0) {x : Int32} {off : Int} {a b : Option β} (tgt : Nat) (d : decode cc pc = .ok (.ifCond .le off, 3)) (q : Nat) (hq : pc + 3 = q) (ht : (pc : Int) + off = (tgt : Int)) (hf : (if x ≤ 0 then a else b) = some rM) (kt : a = some rM → G Γ X M cs sl L st tgt) (kf : b = some rM → G Γ X M cs sl L st q) : G Γ X M cs sl L (.int x :: st) pc := by
  subst hq
  obtain ⟨p, e, R, s, m, args, below, meth, c, Q⟩ := X
  obtain ⟨hx, hb, hml, hown, hts, hW, hlk, hret, hR, hK, hSs, hG⟩ := C
  intro H locs ls a1 a2 a3 a4 a5
  exact lv_if_le hx hb d ht (fun h => kt (by rw [if_pos h] at hf; exact hf) H locs ls a1 a2 a3 a4 a5) (fun h => kf (by rw [if_neg h] at hf; exact hf) H locs ls a1 a2 a3 a4 a5)
theorem x_icmp_eq (C : CX Γ X cc nL own ret R0) {x y : Int32} {off : Int} {a b : Option β} (tgt : Nat) (d : decode cc pc = .ok (.if_icmp .eq off, 3)) (q : Nat) (hq : pc + 3 = q) (ht : (pc : Int) + off = (tgt : Int)) (hf : (if x = y then a else b) = some rM) (kt : a = some rM → G Γ X M cs sl L st tgt) (kf : b = some rM → G Γ X M cs sl L st q) : G Γ X M cs sl L (.int y :: .int x :: st) pc := by
  subst hq
  obtain ⟨p, e, R, s, m, args, below, meth, c, Q⟩ := X
  obtain ⟨hx, hb, hml, hown, hts, hW, hlk, hret, hR, hK, hSs, hG⟩ := C
  intro H locs ls a1 a2 a3 a4 a5
  exact lv_icmp_eq hx hb d ht (fun h => kt (by rw [if_pos h] at hf; exact hf) H locs ls a1 a2 a3 a4 a5) (fun h => kf (by rw [if_neg h] at hf; exact hf) H locs ls a1 a2 a3 a4 a5)
theorem x_icmp_ne (C : CX Γ X cc nL own ret R0) {x y : Int32} {off : Int} {a b : Option β} (tgt : Nat) (d : decode cc pc = .ok (.if_icmp .ne off, 3)) (q : Nat) (hq : pc + 3 = q) (ht : (pc : Int) + off = (tgt : Int)) (hf : (if x = y then b else a) = some rM) (kt : a = some rM → G Γ X M cs sl L st tgt) (kf : b = some rM → G Γ X M cs sl L st q) : G Γ X M cs sl L (.int y :: .int x :: st) pc := by
  subst hq
  obtain ⟨p, e, R, s, m, args, below, meth, c, Q⟩ := X
  obtain ⟨hx, hb, hml, hown, hts, hW, hlk, hret, hR, hK, hSs, hG⟩ := C
  intro H locs ls a1 a2 a3 a4 a5
  exact lv_icmp_ne hx hb d ht (fun h => kt (by rw [if_neg h] at hf; exact hf) H locs ls a1 a2 a3 a4 a5) (fun h => kf (by rw [if_pos h] at hf; exact hf) H locs ls a1 a2 a3 a4 a5)
theorem x_icmp_lt (C : CX Γ X cc nL own ret R0) {x y : Int32} {off : Int} {a b : Option β} (tgt : Nat) (d : decode cc pc = .ok (.if_icmp .lt off, 3)) (q : Nat) (hq : pc + 3 = q) (ht : (pc : Int) + off = (tgt : Int)) (hf : (if x < y then a else b) = some rM) (kt : a = some rM → G Γ X M cs sl L st tgt) (kf : b = some rM → G Γ X M cs sl L st q) : G Γ X M cs sl L (.int y :: .int x :: st) pc := by
  subst hq
  obtain ⟨p, e, R, s, m, args, below, meth, c, Q⟩ := X
  obtain ⟨hx, hb, hml, hown, hts, hW, hlk, hret, hR, hK, hSs, hG⟩ := C
  intro H locs ls a1 a2 a3 a4 a5
  exact lv_icmp_lt hx hb d ht (fun h => kt (by rw [if_pos h] at hf; exact hf) H locs ls a1 a2 a3 a4 a5) (fun h => kf (by rw [if_neg h] at hf; exact hf) H locs ls a1 a2 a3 a4 a5)
theorem x_icmp_ge (C : CX Γ X cc nL own ret R0) {x y : Int32} {off : Int} {a b : Option β} (tgt : Nat) (d : decode cc pc = .ok (.if_icmp .ge off, 3)) (q : Nat) (hq : pc + 3 = q) (ht : (pc : Int) + off = (tgt : Int)) (hf : (if y ≤ x then a else b) = some rM) (kt : a = some rM → G Γ X M cs sl L st tgt) (kf : b = some rM → G Γ X M cs sl L st q) : G Γ X M cs sl L (.int y :: .int x :: st) pc := by
  subst hq
  obtain ⟨p, e, R, s, m, args, below, meth, c, Q⟩ := X
  obtain ⟨hx, hb, hml, hown, hts, hW, hlk, hret, hR, hK, hSs, hG⟩ := C
  intro H locs ls a1 a2 a3 a4 a5
  exact lv_icmp_ge hx hb d ht (fun h => kt (by rw [if_pos h] at hf; exact hf) H locs ls a1 a2 a3 a4 a5) (fun h => kf (by rw [if_neg h] at hf; exact hf) H locs ls a1 a2 a3 a4 a5)
theorem x_icmp_gt (C : CX Γ X cc nL own ret R0) {x y : Int32} {off : Int} {a b : Option β} (tgt : Nat) (d : decode cc pc = .ok (.if_icmp .gt off, 3)) (q : Nat) (hq : pc + 3 = q) (ht : (pc : Int) + off = (tgt : Int)) (hf : (if y < x then a else b) = some rM) (kt : a = some rM → G Γ X M cs sl L st tgt) (kf : b = some rM → G Γ X M cs sl L st q) : G Γ X M cs sl L (.int y :: .int x :: st) pc := by
  subst hq
  obtain ⟨p, e, R, s, m, args, below, meth, c, Q⟩ := X
  obtain ⟨hx, hb, hml, hown, hts, hW, hlk, hret, hR, hK, hSs, hG⟩ := C
  intro H locs ls a1 a2 a3 a4 a5
  exact lv_icmp_gt hx hb d ht (fun h => kt (by rw [if_pos h] at hf; exact hf) H locs ls a1 a2 a3 a4 a5) (fun h => kf (by rw [if_neg h] at hf; exact hf) H locs ls a1 a2 a3 a4 a5)
theorem x_icmp_le (C : CX Γ X cc nL own ret R0) {x y : Int32} {off : Int} {a b : Option β} (tgt : Nat) (d : decode cc pc = .ok (.if_icmp .le off, 3)) (q : Nat) (hq : pc + 3 = q) (ht : (pc : Int) + off = (tgt : Int)) (hf : (if x ≤ y then a else b) = some rM) (kt : a = some rM → G Γ X M cs sl L st tgt) (kf : b = some rM → G Γ X M cs sl L st q) : G Γ X M cs sl L (.int y :: .int x :: st) pc := by
  subst hq
  obtain ⟨p, e, R, s, m, args, below, meth, c, Q⟩ := X
  obtain ⟨hx, hb, hml, hown, hts, hW, hlk, hret, hR, hK, hSs, hG⟩ := C
  intro H locs ls a1 a2 a3 a4 a5
  exact lv_icmp_le hx hb d ht (fun h => kt (by rw [if_pos h] at hf; exact hf) H locs ls a1 a2 a3 a4 a5) (fun h => kf (by rw [if_neg h] at hf; exact hf) H locs ls a1 a2 a3 a4 a5)
theorem x_lcmp_eq (C : CX Γ X cc nL own ret R0) {x y : Int64} {off : Int} {a b : Option β} (tgt : Nat) (d : decode cc pc = .ok (.lcmp, 1)) (q : Nat) (hq : pc + 4 = q) (d2 : decode cc (pc + 1) = .ok (.ifCond .eq off, 3)) (ht : ((pc + 1 : Nat) : Int) + off = (tgt : Int)) (hf : (if x = y then a else b) = some rM) (kt : a = some rM → G Γ X M cs sl L st tgt) (kf : b = some rM → G Γ X M cs sl L st q) : G Γ X M cs sl L (.long y :: .long x :: st) pc := by
  subst hq
  obtain ⟨p, e, R, s, m, args, below, meth, c, Q⟩ := X
  obtain ⟨hx, hb, hml, hown, hts, hW, hlk, hret, hR, hK, hSs, hG⟩ := C
  intro H locs ls a1 a2 a3 a4 a5
  exact W.lcmp hx hb d (lv_if_eq hx hb d2 ht (fun h => kt (by rw [if_pos ((lg_cmp_eq x y).mp h)] at hf; exact hf) H locs ls a1 a2 a3 a4 a5) (fun h => kf (by rw [if_neg (fun z => h ((lg_cmp_eq x y).mpr z))] at hf; exact hf) H locs ls a1 a2 a3 a4 a5))
theorem x_lcmp_ne (C : CX Γ X cc nL own ret R0) {x y : Int64} {off : Int} {a b : Option β} (tgt : Nat) (d : decode cc pc = .ok (.lcmp, 1)) (q : Nat) (hq : pc + 4 = q) (d2 : decode cc (pc + 1) = .ok (.ifCond .ne off, 3)) (ht : ((pc + 1 : Nat) : Int) + off = (tgt : Int)) (hf : (if x = y then b else a) = some rM) (kt : a = some rM → G Γ X M cs sl L st tgt) (kf : b = some rM → G Γ X M cs sl L st q) : G Γ X M cs sl L (.long y :: .long x :: st) pc := by
  subst hq
  obtain ⟨p, e, R, s, m, args, below, meth, c, Q⟩ := X
  obtain ⟨hx, hb, hml, hown, hts, hW, hlk, hret, hR, hK, hSs, hG⟩ := C
  intro H locs ls a1 a2 a3 a4 a5
  exact W.lcmp hx hb d (lv_if_ne hx hb d2 ht (fun h => kt (by rw [if_neg (fun z => h ((lg_cmp_eq x y).mpr z))] at hf; exact hf) H locs ls a1 a2 a3 a4 a5) (fun h => kf (by rw [if_pos ((lg_cmp_eq x y).mp h)] at hf; exact hf) H locs ls a1 a2 a3 a4 a5))
theorem x_lcmp_lt (C : CX Γ X cc nL own ret R0) {x y : Int64} {off : Int} {a b : Option β} (tgt : Nat) (d : decode cc pc = .ok (.lcmp, 1)) (q : Nat) (hq : pc + 4 = q) (d2 : decode cc (pc + 1) = .ok (.ifCond .lt off, 3)) (ht : ((pc + 1 : Nat) : Int) + off = (tgt : Int)) (hf : (if x < y then a else b) = some rM) (kt : a = some rM → G Γ X M cs sl L st tgt) (kf : b = some rM → G Γ X M cs sl L st q) : G Γ X M cs sl L (.long y :: .long x :: st) pc := by
  subst hq
  obtain ⟨p, e, R, s, m, args, below, meth, c, Q⟩ := X
  obtain ⟨hx, hb, hml, hown, hts, hW, hlk, hret, hR, hK, hSs, hG⟩ := C
  intro H locs ls a1 a2 a3 a4 a5
  exact W.lcmp hx hb d (lv_if_lt hx hb d2 ht (fun h => kt (by rw [if_pos ((lg_cmp_lt x y).mp h)] at hf; exact hf) H locs ls a1 a2 a3 a4 a5) (fun h => kf (by rw [if_neg (fun z => h ((lg_cmp_lt x y).mpr z))] at hf; exact hf) H locs ls a1 a2 a3 a4 a5))
theorem x_lcmp_ge (C : CX Γ X cc nL own ret R0) {x y : Int64} {off : Int} {a b : Option β} (tgt : Nat) (d : decode cc pc = .ok (.lcmp, 1)) (q : Nat) (hq : pc + 4 = q) (d2 : decode cc (pc + 1) = .ok (.ifCond .ge off, 3)) (ht : ((pc + 1 : Nat) : Int) + off = (tgt : Int)) (hf : (if y ≤ x then a else b) = some rM) (kt : a = some rM → G Γ X M cs sl L st tgt) (kf : b = some rM → G Γ X M cs sl L st q) : G Γ X M cs sl L (.long y :: .long x :: st) pc := by
  subst hq
  obtain ⟨p, e, R, s, m, args, below, meth, c, Q⟩ := X
  obtain ⟨hx, hb, hml, hown, hts, hW, hlk, hret, hR, hK, hSs, hG⟩ := C
  intro H locs ls a1 a2 a3 a4 a5
  exact W.lcmp hx hb d (lv_if_ge hx hb d2 ht (fun h => kt (by rw [if_pos ((lg_cmp_ge x y).mp h)] at hf; exact hf) H locs ls a1 a2 a3 a4 a5) (fun h => kf (by rw [if_neg (fun z => h ((lg_cmp_ge x y).mpr z))] at hf; exact hf) H locs ls a1 a2 a3 a4 a5))
theorem x_lcmp_gt (C : CX Γ X cc nL own ret R0) {x y : Int64} {off : Int} {a b : Option β} (tgt : Nat) (d : decode cc pc = .ok (.lcmp, 1)) (q : Nat) (hq : pc + 4 = q) (d2 : decode cc (pc + 1) = .ok (.ifCond .gt off, 3)) (ht : ((pc + 1 : Nat) : Int) + off = (tgt : Int)) (hf : (if y < x then a else b) = some rM) (kt : a = some rM → G Γ X M cs sl L st tgt) (kf : b = some rM → G Γ X M cs sl L st q) : G Γ X M cs sl L (.long y :: .long x :: st) pc := by
  subst hq
  obtain ⟨p, e, R, s, m, args, below, meth, c, Q⟩ := X
  obtain ⟨hx, hb, hml, hown, hts, hW, hlk, hret, hR, hK, hSs, hG⟩ := C
  intro H locs ls a1 a2 a3 a4 a5
  exact W.lcmp hx hb d (lv_if_gt hx hb d2 ht (fun h => kt (by rw [if_pos ((lg_cmp_gt x y).mp h)] at hf; exact hf) H locs ls a1 a2 a3 a4 a5) (fun h => kf (by rw [if_neg (fun z => h ((lg_cmp_gt x y).mpr z))] at hf; exact hf) H locs ls a1 a2 a3 a4 a5))
theorem x_lcmp_le (C : CX Γ X cc nL own ret R0) {x y : Int64} {off : Int} {a b : Option β} (tgt : Nat) (d : decode cc pc = .ok (.lcmp, 1)) (q : Nat) (hq : pc + 4 = q) (d2 : decode cc (pc + 1) = .ok (.ifCond .le off, 3)) (ht : ((pc + 1 : Nat) : Int) + off = (tgt : Int)) (hf : (if x ≤ y then a else b) = some rM) (kt : a = some rM → G Γ X M cs sl L st tgt) (kf : b = some rM → G Γ X M cs sl L st q) : G Γ X M cs sl L (.long y :: .long x :: st) pc := by
  subst hq
  obtain ⟨p, e, R, s, m, args, below, meth, c, Q⟩ := X
  obtain ⟨hx, hb, hml, hown, hts, hW, hlk, hret, hR, hK, hSs, hG⟩ := C
  intro H locs ls a1 a2 a3 a4 a5
  exact W.lcmp hx hb d (lv_if_le hx hb d2 ht (fun h => kt (by rw [if_pos ((lg_cmp_le x y).mp h)] at hf; exact hf) H locs ls a1 a2 a3 a4 a5) (fun h => kf (by rw [if_neg (fun z => h ((lg_cmp_le x y).mpr z))] at hf; exact hf) H locs ls a1 a2 a3 a4 a5))
theorem x_irem (C : CX Γ X cc nL own ret R0) {x y : Int32} {a : Option β} (d : decode cc pc = .ok (.irem, 1)) (q : Nat) (hq : pc + 1 = q) (hf : nzI y a = some rM) (K : a = some rM → G Γ X M cs sl L (.int (x - x / y * y) :: st) q) : G Γ X M cs sl L (.int y :: .int x :: st) pc := by
  subst hq
  obtain ⟨p, e, R, s, m, args, below, meth, c, Q⟩ := X
  obtain ⟨hx, hb, hml, hown, hts, hW, hlk, hret, hR, hK, hSs, hG⟩ := C
  intro H locs ls a1 a2 a3 a4 a5
  have h0 : ¬ y = 0 := fun h => by rw [nzI, if_pos h] at hf; exact nomatch hf
  rw [nzI, if_neg h0] at hf
  exact lv_irem hx hb d h0 (K hf H locs ls a1 a2 a3 a4 a5)
theorem x_idiv (C : CX Γ X cc nL own ret R0) {x y : Int32} {a : Option β} (d : decode cc pc = .ok (.idiv, 1)) (q : Nat) (hq : pc + 1 = q) (hf : nzI y a = some rM) (K : a = some rM → G Γ X M cs sl L (.int (x / y) :: st) q) : G Γ X M cs sl L (.int y :: .int x :: st) pc := by
  subst hq
  obtain ⟨p, e, R, s, m, args, below, meth, c, Q⟩ := X
  obtain ⟨hx, hb, hml, hown, hts, hW, hlk, hret, hR, hK, hSs, hG⟩ := C
  intro H locs ls a1 a2 a3 a4 a5
  have h0 : ¬ y = 0 := fun h => by rw [nzI, if_pos h] at hf; exact nomatch hf
  rw [nzI, if_neg h0] at hf
  exact lv_idiv hx hb d h0 (K hf H locs ls a1 a2 a3 a4 a5)
theorem x_ldiv (C : CX Γ X cc nL own ret R0) {x y : Int64} {a : Option β} (d : decode cc pc = .ok (.ldiv, 1)) (q : Nat) (hq : pc + 1 = q) (hf : nzL y a = some rM) (K : a = some rM → G Γ X M cs sl L (.long (x / y) :: st) q) : G Γ X M cs sl L (.long y :: .long x :: st) pc := by
  subst hq
  obtain ⟨p, e, R, s, m, args, below, meth, c, Q⟩ := X
  obtain ⟨hx, hb, hml, hown, hts, hW, hlk, hret, hR, hK, hSs, hG⟩ := C
  intro H locs ls a1 a2 a3 a4 a5
  have h0 : ¬ y = 0 := fun h => by rw [nzL, if_pos h] at hf; exact nomatch hf
  rw [nzL, if_neg h0] at hf
  exact lv_ldiv hx hb d h0 (K hf H locs ls a1 a2 a3 a4 a5)
theorem x_lrem (C : CX Γ X cc nL own ret R0) {x y : Int64} {a : Option β} (d : decode cc pc = .ok (.lrem, 1)) (q : Nat) (hq : pc + 1 = q) (hf : nzL y a = some rM) (K : a = some rM → G Γ X M cs sl L (.long (x - x / y * y) :: st) q) : G Γ X M cs sl L (.long y :: .long x :: st) pc := by
  subst hq
  obtain ⟨p, e, R, s, m, args, below, meth, c, Q⟩ := X
  obtain ⟨hx, hb, hml, hown, hts, hW, hlk, hret, hR, hK, hSs, hG⟩ := C
  intro H locs ls a1 a2 a3 a4 a5
  have h0 : ¬ y = 0 := fun h => by rw [nzL, if_pos h] at hf; exact nomatch hf
  rw [nzL, if_neg h0] at hf
  exact lv_lrem hx hb d h0 (K hf H locs ls a1 a2 a3 a4 a5)
theorem x_iald (C : CX Γ X cc nL own ret R0) {o n : Nat} {i : Int32} {k : Int32 → Option β} (hs : On Γ o (0, n)) (d : decode cc pc = .ok (.iaload, 1)) (q : Nat) (hq : pc + 1 = q) (hf : rdI M o n i k = some rM) (K : ∀ v, k v = some rM → G Γ X M cs sl L (.int v :: st) q) : G Γ X M cs sl L (.int i :: .ref (wad Γ o) :: st) pc := by
  subst hq
  obtain ⟨p, e, R, s, m, args, below, meth, c, Q⟩ := X
  obtain ⟨hx, hb, hml, hown, hts, hW, hlk, hret, hR, hK, hSs, hG⟩ := C
  intro H locs ls a1 a2 a3 a4 a5
  obtain ⟨hi, hf⟩ := if_some hf
  exact va_iald hx hb hK a2 (px Γ o) 0 (wO_at hs) rfl (inB_in hi) d (K _ hf H locs ls a1 a2 a3 a4 a5)
theorem x_bald (C : CX Γ X cc nL own ret R0) {o n : Nat} {i : Int32} {k : Int32 → Option β} (hs : On Γ o (2, n)) (d : decode cc pc = .ok (.baload, 1)) (q : Nat) (hq : pc + 1 = q) (hf : rdI M o n i k = some rM) (K : ∀ v, k v = some rM → G Γ X M cs sl L (.int v :: st) q) : G Γ X M cs sl L (.int i :: .ref (wad Γ o) :: st) pc := by
  subst hq
  obtain ⟨p, e, R, s, m, args, below, meth, c, Q⟩ := X
  obtain ⟨hx, hb, hml, hown, hts, hW, hlk, hret, hR, hK, hSs, hG⟩ := C
  intro H locs ls a1 a2 a3 a4 a5
  obtain ⟨hi, hf⟩ := if_some hf
  exact va_bald hx hb hK a2 (px Γ o) 2 (wO_at hs) rfl (inB_in hi) d (K _ hf H locs ls a1 a2 a3 a4 a5)
theorem x_zald (C : CX Γ X cc nL own ret R0) {o n : Nat} {i : Int32} {k : Int32 → Option β} (hs : On Γ o (3, n)) (d : decode cc pc = .ok (.baload, 1)) (q : Nat) (hq : pc + 1 = q) (hf : rdI M o n i k = some rM) (K : ∀ v, k v = some rM → G Γ X M cs sl L (.int v :: st) q) : G Γ X M cs sl L (.int i :: .ref (wad Γ o) :: st) pc := by
  subst hq
  obtain ⟨p, e, R, s, m, args, below, meth, c, Q⟩ := X
  obtain ⟨hx, hb, hml, hown, hts, hW, hlk, hret, hR, hK, hSs, hG⟩ := C
  intro H locs ls a1 a2 a3 a4 a5
  obtain ⟨hi, hf⟩ := if_some hf
  exact va_zald hx hb hK a2 (px Γ o) 3 (wO_at hs) rfl (inB_in hi) d (K _ hf H locs ls a1 a2 a3 a4 a5)
theorem x_lald (C : CX Γ X cc nL own ret R0) {o n : Nat} {i : Int32} {k : Int64 → Option β} (hs : On Γ o (1, n)) (d : decode cc pc = .ok (.laload, 1)) (q : Nat) (hq : pc + 1 = q) (hf : rdL M o n i k = some rM) (K : ∀ v, k v = some rM → G Γ X M cs sl L (.long v :: st) q) : G Γ X M cs sl L (.int i :: .ref (wad Γ o) :: st) pc := by
  subst hq
  obtain ⟨p, e, R, s, m, args, below, meth, c, Q⟩ := X
  obtain ⟨hx, hb, hml, hown, hts, hW, hlk, hret, hR, hK, hSs, hG⟩ := C
  intro H locs ls a1 a2 a3 a4 a5
  obtain ⟨hi, hf⟩ := if_some hf
  exact va_lald hx hb hK a2 (px Γ o) 1 (wO_at hs) rfl (inB_in hi) d (K _ hf H locs ls a1 a2 a3 a4 a5)
theorem x_iast (C : CX Γ X cc nL own ret R0) {o n : Nat} {i : Int32} {v : Int32} {k : Mem → Option β} (hs : On Γ o (0, n)) (d : decode cc pc = .ok (.iastore, 1)) (q : Nat) (hq : pc + 1 = q) (hf : wrI M o n i v k = some rM) (K : ∀ M1, k M1 = some rM → G Γ X M1 cs sl L st q) : G Γ X M cs sl L (.int v :: .int i :: .ref (wad Γ o) :: st) pc := by
  subst hq
  obtain ⟨p, e, R, s, m, args, below, meth, c, Q⟩ := X
  obtain ⟨hx, hb, hml, hown, hts, hW, hlk, hret, hR, hK, hSs, hG⟩ := C
  intro H locs ls a1 a2 a3 a4 a5
  obtain ⟨hi, hf⟩ := if_some hf
  refine va_iast hx hb hK a2 a3 a4 (px Γ o) 0 (wO_at hs) rfl (inB_in hi) d (fun H1 locs1 hP1 hD1 hS1 => ?_)
  have e1 : (wO Γ M).set (px Γ o) (wad Γ o, cE (wA Γ) (wad Γ) (sI M o i.toNatClampNeg v) o (0, n)) = wO Γ (sI M o i.toNatClampNeg v) := wO_set hs (fun a ha q => cE_sI ha q)
  have e2 : (gI (sI M o i.toNatClampNeg v) o) = (upd (gI M o) i.toNatClampNeg v) := by
    funext j
    simp only [gI_sI, upd, true_and]
  have e3 : cE (wA Γ) (wad Γ) (sI M o i.toNatClampNeg v) o (0, n) = (Sum.inl (wA Γ 0, n, Sum.inl (upd (gI M o) i.toNatClampNeg v)) : va_E) := by
    show (Sum.inl (wA Γ 0, n, Sum.inl (gI (sI M o i.toNatClampNeg v) o)) : va_E) = _
    rw [e2]
  rw [← e3, e1] at hP1 hD1
  exact K _ hf H1 locs1 ls (hG.kw M _ (fun _ _ => rfl) a1) hP1 hD1 hS1 a5
theorem x_bast (C : CX Γ X cc nL own ret R0) {o n : Nat} {i : Int32} {v : Int32} {k : Mem → Option β} (hs : On Γ o (2, n)) (d : decode cc pc = .ok (.bastore, 1)) (q : Nat) (hq : pc + 1 = q) (hf : wrB M o n i v k = some rM) (K : ∀ M1, k M1 = some rM → G Γ X M1 cs sl L st q) : G Γ X M cs sl L (.int v :: .int i :: .ref (wad Γ o) :: st) pc := by
  subst hq
  obtain ⟨p, e, R, s, m, args, below, meth, c, Q⟩ := X
  obtain ⟨hx, hb, hml, hown, hts, hW, hlk, hret, hR, hK, hSs, hG⟩ := C
  intro H locs ls a1 a2 a3 a4 a5
  obtain ⟨hi, hf⟩ := if_some hf
  refine va_bast hx hb hK a2 a3 a4 (px Γ o) 2 (wO_at hs) rfl (inB_in hi) d (fun H1 locs1 hP1 hD1 hS1 => ?_)
  have e1 : (wO Γ M).set (px Γ o) (wad Γ o, cE (wA Γ) (wad Γ) (sI M o i.toNatClampNeg (vp_nar .byte v)) o (2, n)) = wO Γ (sI M o i.toNatClampNeg (vp_nar .byte v)) := wO_set hs (fun a ha q => cE_sI ha q)
  have e2 : (gI (sI M o i.toNatClampNeg (vp_nar .byte v)) o) = (upd (gI M o) i.toNatClampNeg (vp_nar .byte v)) := by
    funext j
    simp only [gI_sI, upd, true_and]
  have e3 : cE (wA Γ) (wad Γ) (sI M o i.toNatClampNeg (vp_nar .byte v)) o (2, n) = (Sum.inl (wA Γ 2, n, Sum.inl (upd (gI M o) i.toNatClampNeg (vp_nar .byte v))) : va_E) := by
    show (Sum.inl (wA Γ 2, n, Sum.inl (gI (sI M o i.toNatClampNeg (vp_nar .byte v)) o)) : va_E) = _
    rw [e2]
  rw [← e3, e1] at hP1 hD1
  exact K _ hf H1 locs1 ls (hG.kw M _ (fun _ _ => rfl) a1) hP1 hD1 hS1 a5
theorem x_zast (C : CX Γ X cc nL own ret R0) {o n : Nat} {i : Int32} {v : Int32} {k : Mem → Option β} (hs : On Γ o (3, n)) (d : decode cc pc = .ok (.bastore, 1)) (q : Nat) (hq : pc + 1 = q) (hf : wrZ M o n i v k = some rM) (K : ∀ M1, k M1 = some rM → G Γ X M1 cs sl L st q) : G Γ X M cs sl L (.int v :: .int i :: .ref (wad Γ o) :: st) pc := by
  subst hq
  obtain ⟨p, e, R, s, m, args, below, meth, c, Q⟩ := X
  obtain ⟨hx, hb, hml, hown, hts, hW, hlk, hret, hR, hK, hSs, hG⟩ := C
  intro H locs ls a1 a2 a3 a4 a5
  obtain ⟨hi, hf⟩ := if_some hf
  refine va_zast hx hb hK a2 a3 a4 (px Γ o) 3 (wO_at hs) rfl (inB_in hi) d (fun H1 locs1 hP1 hD1 hS1 => ?_)
  have e1 : (wO Γ M).set (px Γ o) (wad Γ o, cE (wA Γ) (wad Γ) (sI M o i.toNatClampNeg (vp_nar .boolean v)) o (3, n)) = wO Γ (sI M o i.toNatClampNeg (vp_nar .boolean v)) := wO_set hs (fun a ha q => cE_sI ha q)
  have e2 : (gI (sI M o i.toNatClampNeg (vp_nar .boolean v)) o) = (upd (gI M o) i.toNatClampNeg (vp_nar .boolean v)) := by
    funext j
    simp only [gI_sI, upd, true_and]
  have e3 : cE (wA Γ) (wad Γ) (sI M o i.toNatClampNeg (vp_nar .boolean v)) o (3, n) = (Sum.inl (wA Γ 3, n, Sum.inl (upd (gI M o) i.toNatClampNeg (vp_nar .boolean v))) : va_E) := by
    show (Sum.inl (wA Γ 3, n, Sum.inl (gI (sI M o i.toNatClampNeg (vp_nar .boolean v)) o)) : va_E) = _
    rw [e2]
  rw [← e3, e1] at hP1 hD1
  exact K _ hf H1 locs1 ls (hG.kw M _ (fun _ _ => rfl) a1) hP1 hD1 hS1 a5
theorem x_last (C : CX Γ X cc nL own ret R0) {o n : Nat} {i : Int32} {v : Int64} {k : Mem → Option β} (hs : On Γ o (1, n)) (d : decode cc pc = .ok (.lastore, 1)) (q : Nat) (hq : pc + 1 = q) (hf : wrL M o n i v k = some rM) (K : ∀ M1, k M1 = some rM → G Γ X M1 cs sl L st q) : G Γ X M cs sl L (.long v :: .int i :: .ref (wad Γ o) :: st) pc := by
  subst hq
  obtain ⟨p, e, R, s, m, args, below, meth, c, Q⟩ := X
  obtain ⟨hx, hb, hml, hown, hts, hW, hlk, hret, hR, hK, hSs, hG⟩ := C
  intro H locs ls a1 a2 a3 a4 a5
  obtain ⟨hi, hf⟩ := if_some hf
  refine va_last hx hb hK a2 a3 a4 (px Γ o) 1 (wO_at hs) rfl (inB_in hi) d (fun H1 locs1 hP1 hD1 hS1 => ?_)
  have e1 : (wO Γ M).set (px Γ o) (wad Γ o, cE (wA Γ) (wad Γ) (sL M o i.toNatClampNeg v) o (1, n)) = wO Γ (sL M o i.toNatClampNeg v) := wO_set hs (fun a ha q => cE_sL ha q)
  have e2 : (gL (sL M o i.toNatClampNeg v) o) = (vp_updL (gL M o) i.toNatClampNeg v) := by
    funext j
    simp only [gL_sL, vp_updL, true_and]
  have e3 : cE (wA Γ) (wad Γ) (sL M o i.toNatClampNeg v) o (1, n) = (Sum.inl (wA Γ 1, n, Sum.inr (Sum.inl (vp_updL (gL M o) i.toNatClampNeg v))) : va_E) := by
    show (Sum.inl (wA Γ 1, n, Sum.inr (Sum.inl (gL (sL M o i.toNatClampNeg v) o))) : va_E) = _
    rw [e2]
  rw [← e3, e1] at hP1 hD1
  exact K _ hf H1 locs1 ls (hG.kw M _ (fun _ _ => rfl) a1) hP1 hD1 hS1 a5
theorem x_alen (C : CX Γ X cc nL own ret R0) {o cd n : Nat} {v : Int32} (hc : cd < 4) (hs : On Γ o (cd, n)) (hv : Int32.ofNat n = v) (d : decode cc pc = .ok (.arraylength, 1)) (q : Nat) (hq : pc + 1 = q) (k : G Γ X M cs sl L (.int v :: st) q) : G Γ X M cs sl L (.ref (wad Γ o) :: st) pc := by
  subst hq
  obtain ⟨p, e, R, s, m, args, below, meth, c, Q⟩ := X
  obtain ⟨hx, hb, hml, hown, hts, hW, hlk, hret, hR, hK, hSs, hG⟩ := C
  intro H locs ls a1 a2 a3 a4 a5
  match cd, hc, hs with
  | 0, _, hs => exact va_alen hx hb hK a2 (px Γ o) 0 (wO_at hs) rfl hv d (k H locs ls a1 a2 a3 a4 a5)
  | 1, _, hs => exact va_alen hx hb hK a2 (px Γ o) 1 (wO_at hs) rfl hv d (k H locs ls a1 a2 a3 a4 a5)
  | 2, _, hs => exact va_alen hx hb hK a2 (px Γ o) 2 (wO_at hs) rfl hv d (k H locs ls a1 a2 a3 a4 a5)
  | 3, _, hs => exact va_alen hx hb hK a2 (px Γ o) 3 (wO_at hs) rfl hv d (k H locs ls a1 a2 a3 a4 a5)
  | n + 4, hc, _ => exact absurd hc (by omega)
theorem x_alenv (C : CX Γ X cc nL own ret R0) {o n : Nat} (hs : On Γ o (4, n)) (d : decode cc pc = .ok (.arraylength, 1)) (q : Nat) (hq : pc + 1 = q) (k : G Γ X M cs sl L (.int (Int32.ofNat (vlen M o)) :: st) q) : G Γ X M cs sl L (.ref (wad Γ o) :: st) pc := by
  subst hq
  obtain ⟨p, e, R, s, m, args, below, meth, c, Q⟩ := X
  obtain ⟨hx, hb, hml, hown, hts, hW, hlk, hret, hR, hK, hSs, hG⟩ := C
  intro H locs ls a1 a2 a3 a4 a5
  exact va_alen hx hb hK a2 (px Γ o) 2 (wO_at hs) rfl rfl d (k H locs ls a1 a2 a3 a4 a5)
theorem cE_q {dA : Nat → ClassId} {ad : Nat → Nat} {M : Mem} {o k n : Nat} (hn : n < 1000) : cE dA ad M o (5, 1000 * k + n) = .inl (dA (5 + k), n, .inr (.inr (.inr (.inr (fun j => (gR M o j).map ad))))) := by
  show (.inl (dA (5 + (1000 * k + n) / 1000), (1000 * k + n) % 1000, .inr (.inr (.inr (.inr (fun j => (gR M o j).map ad))))) : va_E) = _
  rw [show (1000 * k + n) / 1000 = k by omega, show (1000 * k + n) % 1000 = n by omega]
/-- the type of a place of a row of references -/
def tyQ (k : Nat) : FieldType := match k with
  | 0 => .object "DecisionChain$Settings"
  | 1 => .array .int
  | 2 => .array (.array .int)
  | _ => .array .boolean
theorem tysA_q (dA : Nat → ClassId) : ∀ k, k < 4 → (tysA dA)[4 + k]? = some (dA (5 + k), tyQ k) := by
  intro k hk
  match k, hk with
  | 0, _ => rfl
  | 1, _ => rfl
  | 2, _ => rfl
  | 3, _ => rfl
  | n + 4, hc => exact absurd hc (by omega)
theorem x_alenq (C : CX Γ X cc nL own ret R0) {o k9 n : Nat} {v : Int32} (hk9 : k9 < 4) (hn : n < 1000) (hs : On Γ o (5, 1000 * k9 + n)) (hv : Int32.ofNat n = v) (d : decode cc pc = .ok (.arraylength, 1)) (q : Nat) (hq : pc + 1 = q) (k : G Γ X M cs sl L (.int v :: st) q) : G Γ X M cs sl L (.ref (wad Γ o) :: st) pc := by
  subst hq
  obtain ⟨p, e, R, s, m, args, below, meth, c, Q⟩ := X
  obtain ⟨hx, hb, hml, hown, hts, hW, hlk, hret, hR, hK, hSs, hG⟩ := C
  intro H locs ls a1 a2 a3 a4 a5
  have h1 := wO_at (M := M) hs
  rw [cE_q hn] at h1
  exact va_alen hx hb hK a2 (px Γ o) (4 + k9) h1 (tysA_q _ k9 hk9) hv d (k H locs ls a1 a2 a3 a4 a5)
/-- what a row of references holds: k says the kind -/
def rdQ {β : Type} (M : Mem) (o n : Nat) (i : Int32) (sh : Nat → Option SE) (e : SE) (k : Nat → Option β) : Option β := if inB i n = true then (match gR M o i.toNatClampNeg with
  | some j => if sh j = some e then k j else none
  | none => none) else none
theorem x_aaldK (C : CX Γ X cc nL own ret R0) {o k9 n : Nat} {i : Int32} (hk9 : k9 < 4) (hn : n < 1000) (hs : On Γ o (5, 1000 * k9 + n)) (hi : inB i n = true) (d : decode cc pc = .ok (.aaload, 1)) (q : Nat) (hq : pc + 1 = q) {j : Nat} (hg : gR M o i.toNatClampNeg = some j) (K : G Γ X M cs sl L (.ref (wad Γ j) :: st) q) : G Γ X M cs sl L (.int i :: .ref (wad Γ o) :: st) pc := by
  subst hq
  obtain ⟨p, e, R, s, m, args, below, meth, c, Q⟩ := X
  obtain ⟨hx, hb, hml, hown, hts, hW, hlk, hret, hR, hK, hSs, hG⟩ := C
  intro H locs ls a1 a2 a3 a4 a5
  have h1 := wO_at (M := M) hs
  rw [cE_q hn] at h1
  have hin := inB_in hi
  have hlt : i.toNatClampNeg < n := Nat.not_le.mp fun q => hin (Or.inr q)
  have hr : (tyQ k9).isReference = true := by
    match k9, hk9 with
    | 0, _ => rfl
    | 1, _ => rfl
    | 2, _ => rfl
    | 3, _ => rfl
    | n + 4, hc => exact absurd hc (by omega)
  refine W.aald (v := .ref (wad Γ j)) (ty := tyQ k9) hx hb (a2 _ _ h1) ((hK.2 (4 + k9) _ (tysA_q _ k9 hk9)).1 n (fun j => va_rf ((gR M o j).map (wad Γ)))) hr (fun q => by cases q) (by show ¬ (i < 0 ∨ (arrV _ _ _).slots.size ≤ _); rw [arrV_size]; exact hin) ?_ rfl rfl d (K H locs ls a1 a2 a3 a4 a5)
  show (arrV _ _ _).slots[_]? = _
  rw [arrV_read _ _ hlt]
  show some (va_rf ((gR M o i.toNatClampNeg).map (wad Γ))) = _
  rw [hg]
  rfl
theorem x_qald (C : CX Γ X cc nL own ret R0) {o k9 n : Nat} {i : Int32} {sh : Nat → Option SE} {e9 : SE} {kk : Nat → Option β} (hk9 : k9 < 4) (hn : n < 1000) (hs : On Γ o (5, 1000 * k9 + n)) (d : decode cc pc = .ok (.aaload, 1)) (q : Nat) (hq : pc + 1 = q) (hf : rdQ M o n i sh e9 kk = some rM) (K : ∀ j, sh j = some e9 → kk j = some rM → G Γ X M cs sl L (.ref (wad Γ j) :: st) q) : G Γ X M cs sl L (.int i :: .ref (wad Γ o) :: st) pc := by
  subst hq
  obtain ⟨hi, hf⟩ := if_some hf
  cases hg : gR M o i.toNatClampNeg with
  | none => rw [hg] at hf; exact nomatch hf
  | some j =>
    rw [hg] at hf
    obtain ⟨hj, hf⟩ := if_some hf
    exact x_aaldK C hk9 hn hs hi d _ rfl hg (K j hj hf)
theorem x_getI (C : CX Γ X cc nL own ret R0) {o n idx ci k : Nat} {kk : Int32 → Option β} (lk : FLk own idx ci k 0) (hs : On Γ o (ci + 6, n)) (d : decode cc pc = .ok (.getfield idx, 3)) (q : Nat) (hq : pc + 3 = q) (hf : bd (gI M o k) kk = some rM) (K : ∀ v, kk v = some rM → G Γ X M cs sl L (.int v :: st) q) : G Γ X M cs sl L (.ref (wad Γ o) :: st) pc := by
  subst hq
  obtain ⟨p, e, R, s, m, args, below, meth, c, Q⟩ := X
  obtain ⟨hx, hb, hml, hown, hts, hW, hlk, hret, hR, hK, hSs, hG⟩ := C
  intro H locs ls a1 a2 a3 a4 a5
  obtain ⟨C, T, N, h1, h2, h3, h4, h5⟩ := lk
  have hv : (fsO (wad Γ) M o ci)[k]? = some (.int (gI M o k)) := by
    rw [fsO_at (by rw [nFd_of h1]; exact h2), h3]; rfl
  exact va_get hx hb (Ts := u_ws C T N) (fun w hw => hts w (h4 w hw)) (fun w h => h) hown hK a2 (px Γ o) (wO_at hs) h1 k h2 (hts _ h5) (fun _ h => h) hv d (K _ hf H locs ls a1 a2 a3 a4 a5)
theorem x_getL (C : CX Γ X cc nL own ret R0) {o n idx ci k : Nat} {kk : Int64 → Option β} (lk : FLk own idx ci k 1) (hs : On Γ o (ci + 6, n)) (d : decode cc pc = .ok (.getfield idx, 3)) (q : Nat) (hq : pc + 3 = q) (hf : bd (gL M o k) kk = some rM) (K : ∀ v, kk v = some rM → G Γ X M cs sl L (.long v :: st) q) : G Γ X M cs sl L (.ref (wad Γ o) :: st) pc := by
  subst hq
  obtain ⟨p, e, R, s, m, args, below, meth, c, Q⟩ := X
  obtain ⟨hx, hb, hml, hown, hts, hW, hlk, hret, hR, hK, hSs, hG⟩ := C
  intro H locs ls a1 a2 a3 a4 a5
  obtain ⟨C, T, N, h1, h2, h3, h4, h5⟩ := lk
  have hv : (fsO (wad Γ) M o ci)[k]? = some (.long (gL M o k)) := by
    rw [fsO_at (by rw [nFd_of h1]; exact h2), h3]; rfl
  exact va_get hx hb (Ts := u_ws C T N) (fun w hw => hts w (h4 w hw)) (fun w h => h) hown hK a2 (px Γ o) (wO_at hs) h1 k h2 (hts _ h5) (fun _ h => h) hv d (K _ hf H locs ls a1 a2 a3 a4 a5)
theorem x_getS (C : CX Γ X cc nL own ret R0) {o n idx ci k j : Nat} (lk : FLk own idx ci k 2) (hs : On Γ o (ci + 6, n)) (hr : ∀ M, wK Γ M → gR M o k = some j) (d : decode cc pc = .ok (.getfield idx, 3)) (q : Nat) (hq : pc + 3 = q) (K : G Γ X M cs sl L (.ref (wad Γ j) :: st) q) : G Γ X M cs sl L (.ref (wad Γ o) :: st) pc := by
  subst hq
  obtain ⟨p, e, R, s, m, args, below, meth, c, Q⟩ := X
  obtain ⟨hx, hb, hml, hown, hts, hW, hlk, hret, hR, hK, hSs, hG⟩ := C
  intro H locs ls a1 a2 a3 a4 a5
  obtain ⟨C, T, N, h1, h2, h3, h4, h5⟩ := lk
  have hv : (fsO (wad Γ) M o ci)[k]? = some (.ref (wad Γ j)) := by
    rw [fsO_at (by rw [nFd_of h1]; exact h2), h3]
    simp only [fVal, hr M a1, Option.map_some, va_rf]
  exact va_get hx hb (Ts := u_ws C T N) (fun w hw => hts w (h4 w hw)) (fun w h => h) hown hK a2 (px Γ o) (wO_at hs) h1 k h2 (hts _ h5) (fun _ h => h) hv d (K H locs ls a1 a2 a3 a4 a5)
theorem x_getR (C : CX Γ X cc nL own ret R0) {o n idx ci k : Nat} {sh : List SE} {e9 : SE} {kk : Nat → Option β} (lk : FLk own idx ci k 2) (hs : On Γ o (ci + 6, n)) (d : decode cc pc = .ok (.getfield idx, 3)) (q : Nat) (hq : pc + 3 = q) (hf : rfR M o k sh e9 kk = some rM) (K : ∀ j, sh[j]? = some e9 → kk j = some rM → G Γ X M cs sl L (.ref (wad Γ j) :: st) q) : G Γ X M cs sl L (.ref (wad Γ o) :: st) pc := by
  subst hq
  obtain ⟨p, e, R, s, m, args, below, meth, c, Q⟩ := X
  obtain ⟨hx, hb, hml, hown, hts, hW, hlk, hret, hR, hK, hSs, hG⟩ := C
  intro H locs ls a1 a2 a3 a4 a5
  obtain ⟨C, T, N, h1, h2, h3, h4, h5⟩ := lk
  unfold rfR at hf
  cases hg : gR M o k with
  | none => rw [hg] at hf; exact nomatch hf
  | some j =>
    rw [hg] at hf
    obtain ⟨hj, hf⟩ := if_some hf
    have hv : (fsO (wad Γ) M o ci)[k]? = some (.ref (wad Γ j)) := by
      rw [fsO_at (by rw [nFd_of h1]; exact h2), h3]
      simp only [fVal, hg, Option.map_some, va_rf]
    exact va_get hx hb (Ts := u_ws C T N) (fun w hw => hts w (h4 w hw)) (fun w h => h) hown hK a2 (px Γ o) (wO_at hs) h1 k h2 (hts _ h5) (fun _ h => h) hv d (K j hj hf H locs ls a1 a2 a3 a4 a5)
theorem x_aald (C : CX Γ X cc nL own ret R0) {o n : Nat} {i : Int32} {sh : List SE} {e9 : SE} {kk : Nat → Option β} (hn : n < 1000) (hs : On Γ o (5, n)) (d : decode cc pc = .ok (.aaload, 1)) (q : Nat) (hq : pc + 1 = q) (hf : rdR M o n i sh e9 kk = some rM) (K : ∀ j, sh[j]? = some e9 → kk j = some rM → G Γ X M cs sl L (.ref (wad Γ j) :: st) q) : G Γ X M cs sl L (.int i :: .ref (wad Γ o) :: st) pc := by
  subst hq
  obtain ⟨hi, hf⟩ := if_some hf
  cases hg : gR M o i.toNatClampNeg with
  | none => rw [hg] at hf; exact nomatch hf
  | some j =>
    rw [hg] at hf
    obtain ⟨hj, hf⟩ := if_some hf
    exact x_aaldK C (k9 := 0) (by decide) hn (by rw [Nat.mul_zero, Nat.zero_add]; exact hs) hi d _ rfl hg (K j hj hf)
theorem x_putI (C : CX Γ X cc nL own ret R0) {o n idx ci k : Nat} {v : Int32} {kk : Mem → Option β} {ok : Value → Prop} (lk : FPk own idx ci k 0 false ok) (hok : ok (.int v)) (hs : On Γ o (ci + 6, n)) (d : decode cc pc = .ok (.putfield idx, 3)) (q : Nat) (hq : pc + 3 = q) (hf : bd (sI M o k v) kk = some rM) (K : ∀ M1, kk M1 = some rM → G Γ X M1 cs sl L st q) : G Γ X M cs sl L (.int v :: .ref (wad Γ o) :: st) pc := by
  subst hq
  obtain ⟨p, e, R, s, m, args, below, meth, c, Q⟩ := X
  obtain ⟨hx, hb, hml, hown, hts, hW, hlk, hret, hR, hK, hSs, hG⟩ := C
  intro H locs ls a1 a2 a3 a4 a5
  obtain ⟨C, T, N, t9, h1, h2, h3, h4, h5, h6, h6b, h7, h8, h9⟩ := lk
  obtain ⟨z1, z2⟩ := h9 _ hok
  have hkN : k < nFd ci := by rw [nFd_of h1]; exact h2
  refine va_put hx hb (Ts := u_ws C T N) (fun w hw => hts w (h4 w hw)) (fun w h => h) t9 h7 h8 hown hK a2 a3 a4 (px Γ o) (wO_at hs) h1 k h2 (hts _ h5) (fun _ h => h) h6 (h7 k h2) z1 z2 (by rw [fsO_len]; exact hkN) d (fun H1 locs1 hP1 hD1 hS1 => ?_)
  have e0 : (fsO (wad Γ) M o ci).set k (.int v) = fsO (wad Γ) (sI M o k v) o ci := by
    have := fsO_set (ad := wad Γ) (M := M) (M' := sI M o k v) (o := o) (ci := ci) hkN (fun j q hj => by simp only [fVal]; split <;> first | (rw [gI_sI, if_neg (fun z => hj z.2)]; done) | rfl)
    rw [h3] at this
    simp only [fVal, gI_sI, and_self, if_true] at this; exact this
  have e1 : (wO Γ M).set (px Γ o) (wad Γ o, cE (wA Γ) (wad Γ) (sI M o k v) o (ci + 6, n)) = wO Γ (sI M o k v) := wO_set hs (fun a ha q => cE_sI ha q)
  have e3 : cE (wA Γ) (wad Γ) (sI M o k v) o (ci + 6, n) = (Sum.inr (ci, (fsO (wad Γ) M o ci).set k (.int v)) : va_E) := by
    rw [e0]; rfl
  rw [← e3, e1] at hP1 hD1
  exact K _ hf H1 locs1 ls (hG.kw M _ (fun _ _ => rfl) a1) hP1 hD1 hS1 a5
theorem x_putL (C : CX Γ X cc nL own ret R0) {o n idx ci k : Nat} {v : Int64} {kk : Mem → Option β} {ok : Value → Prop} (lk : FPk own idx ci k 1 false ok) (hok : ok (.long v)) (hs : On Γ o (ci + 6, n)) (d : decode cc pc = .ok (.putfield idx, 3)) (q : Nat) (hq : pc + 3 = q) (hf : bd (sL M o k v) kk = some rM) (K : ∀ M1, kk M1 = some rM → G Γ X M1 cs sl L st q) : G Γ X M cs sl L (.long v :: .ref (wad Γ o) :: st) pc := by
  subst hq
  obtain ⟨p, e, R, s, m, args, below, meth, c, Q⟩ := X
  obtain ⟨hx, hb, hml, hown, hts, hW, hlk, hret, hR, hK, hSs, hG⟩ := C
  intro H locs ls a1 a2 a3 a4 a5
  obtain ⟨C, T, N, t9, h1, h2, h3, h4, h5, h6, h6b, h7, h8, h9⟩ := lk
  obtain ⟨z1, z2⟩ := h9 _ hok
  have hkN : k < nFd ci := by rw [nFd_of h1]; exact h2
  refine va_put hx hb (Ts := u_ws C T N) (fun w hw => hts w (h4 w hw)) (fun w h => h) t9 h7 h8 hown hK a2 a3 a4 (px Γ o) (wO_at hs) h1 k h2 (hts _ h5) (fun _ h => h) h6 (h7 k h2) z1 z2 (by rw [fsO_len]; exact hkN) d (fun H1 locs1 hP1 hD1 hS1 => ?_)
  have e0 : (fsO (wad Γ) M o ci).set k (.long v) = fsO (wad Γ) (sL M o k v) o ci := by
    have := fsO_set (ad := wad Γ) (M := M) (M' := sL M o k v) (o := o) (ci := ci) hkN (fun j q hj => by simp only [fVal]; split <;> first | (rw [gL_sL, if_neg (fun z => hj z.2)]; done) | rfl)
    rw [h3] at this
    simp only [fVal, gL_sL, and_self, if_true] at this; exact this
  have e1 : (wO Γ M).set (px Γ o) (wad Γ o, cE (wA Γ) (wad Γ) (sL M o k v) o (ci + 6, n)) = wO Γ (sL M o k v) := wO_set hs (fun a ha q => cE_sL ha q)
  have e3 : cE (wA Γ) (wad Γ) (sL M o k v) o (ci + 6, n) = (Sum.inr (ci, (fsO (wad Γ) M o ci).set k (.long v)) : va_E) := by
    rw [e0]; rfl
  rw [← e3, e1] at hP1 hD1
  exact K _ hf H1 locs1 ls (hG.kw M _ (fun _ _ => rfl) a1) hP1 hD1 hS1 a5
theorem x_putR (C : CX Γ X cc nL own ret R0) {o n idx ci k : Nat} {v : Nat} (hk : ∀ M, wK Γ M → wK Γ (sR M o k (some v))) {kk : Mem → Option β} {ok : Value → Prop} (lk : FPk own idx ci k 2 false ok) (hok : ok (.ref (wad Γ v))) (hs : On Γ o (ci + 6, n)) (d : decode cc pc = .ok (.putfield idx, 3)) (q : Nat) (hq : pc + 3 = q) (hf : bd (sR M o k (some v)) kk = some rM) (K : ∀ M1, kk M1 = some rM → G Γ X M1 cs sl L st q) : G Γ X M cs sl L (.ref (wad Γ v) :: .ref (wad Γ o) :: st) pc := by
  subst hq
  obtain ⟨p, e, R, s, m, args, below, meth, c, Q⟩ := X
  obtain ⟨hx, hb, hml, hown, hts, hW, hlk, hret, hR, hK, hSs, hG⟩ := C
  intro H locs ls a1 a2 a3 a4 a5
  obtain ⟨C, T, N, t9, h1, h2, h3, h4, h5, h6, h6b, h7, h8, h9⟩ := lk
  obtain ⟨z1, z2⟩ := h9 _ hok
  have hkN : k < nFd ci := by rw [nFd_of h1]; exact h2
  refine va_put hx hb (Ts := u_ws C T N) (fun w hw => hts w (h4 w hw)) (fun w h => h) t9 h7 h8 hown hK a2 a3 a4 (px Γ o) (wO_at hs) h1 k h2 (hts _ h5) (fun _ h => h) h6 (h7 k h2) z1 z2 (by rw [fsO_len]; exact hkN) d (fun H1 locs1 hP1 hD1 hS1 => ?_)
  have e0 : (fsO (wad Γ) M o ci).set k (.ref (wad Γ v)) = fsO (wad Γ) (sR M o k (some v)) o ci := by
    have := fsO_set (ad := wad Γ) (M := M) (M' := sR M o k (some v)) (o := o) (ci := ci) hkN (fun j q hj => by simp only [fVal]; split <;> first | rfl | (rw [gR_sR, if_neg (fun z => hj z.2)]; done))
    rw [h3] at this
    simp only [fVal, gR_sR, and_self, if_true, Option.map_some, va_rf] at this; exact this
  have e1 : (wO Γ M).set (px Γ o) (wad Γ o, cE (wA Γ) (wad Γ) (sR M o k (some v)) o (ci + 6, n)) = wO Γ (sR M o k (some v)) := wO_set hs (fun a ha q => cE_sR ha q)
  have e3 : cE (wA Γ) (wad Γ) (sR M o k (some v)) o (ci + 6, n) = (Sum.inr (ci, (fsO (wad Γ) M o ci).set k (.ref (wad Γ v))) : va_E) := by
    rw [e0]; rfl
  rw [← e3, e1] at hP1 hD1
  exact K _ hf H1 locs1 ls (hk _ a1) hP1 hD1 hS1 a5
theorem x_putFR (C : CX Γ X cc nL own ret R0) (hinit : match X with | (_, _, _, _, _, _, _, meth, _, _) => meth.name = "<init>") {o n idx ci k : Nat} {v : Nat} (hk : ∀ M, wK Γ M → wK Γ (sR M o k (some v))) {kk : Mem → Option β} {ok : Value → Prop} (lk : FPk own idx ci k 2 true ok) (hok : ok (.ref (wad Γ v))) (hs : On Γ o (ci + 6, n)) (d : decode cc pc = .ok (.putfield idx, 3)) (q : Nat) (hq : pc + 3 = q) (hf : bd (sR M o k (some v)) kk = some rM) (K : ∀ M1, kk M1 = some rM → G Γ X M1 cs sl L st q) : G Γ X M cs sl L (.ref (wad Γ v) :: .ref (wad Γ o) :: st) pc := by
  subst hq
  obtain ⟨p, e, R, s, m, args, below, meth, c, Q⟩ := X
  obtain ⟨hx, hb, hml, hown, hts, hW, hlk, hret, hR, hK, hSs, hG⟩ := C
  intro H locs ls a1 a2 a3 a4 a5
  obtain ⟨C, T, N, t9, h1, h2, h3, h4, h5, h6, h6b, h7, h8, h9⟩ := lk
  obtain ⟨z1, z2⟩ := h9 _ hok
  have hkN : k < nFd ci := by rw [nFd_of h1]; exact h2
  refine va_putF hx hb (Ts := u_ws C T N) (fun w hw => hts w (h4 w hw)) (fun w h => h) t9 h7 h8 hown hK a2 a3 a4 (px Γ o) (wO_at hs) h1 k h2 (hts _ h5) (fun _ h => h) h6 hinit (h6b rfl) (h7 k h2) z1 z2 (by rw [fsO_len]; exact hkN) d (fun H1 locs1 hP1 hD1 hS1 => ?_)
  have e0 : (fsO (wad Γ) M o ci).set k (.ref (wad Γ v)) = fsO (wad Γ) (sR M o k (some v)) o ci := by
    have := fsO_set (ad := wad Γ) (M := M) (M' := sR M o k (some v)) (o := o) (ci := ci) hkN (fun j q hj => by simp only [fVal]; split <;> first | rfl | (rw [gR_sR, if_neg (fun z => hj z.2)]; done))
    rw [h3] at this
    simp only [fVal, gR_sR, and_self, if_true, Option.map_some, va_rf] at this; exact this
  have e1 : (wO Γ M).set (px Γ o) (wad Γ o, cE (wA Γ) (wad Γ) (sR M o k (some v)) o (ci + 6, n)) = wO Γ (sR M o k (some v)) := wO_set hs (fun a ha q => cE_sR ha q)
  have e3 : cE (wA Γ) (wad Γ) (sR M o k (some v)) o (ci + 6, n) = (Sum.inr (ci, (fsO (wad Γ) M o ci).set k (.ref (wad Γ v))) : va_E) := by
    rw [e0]; rfl
  rw [← e3, e1] at hP1 hD1
  exact K _ hf H1 locs1 ls (hk _ a1) hP1 hD1 hS1 a5
theorem x_aast (C : CX Γ X cc nL own ret R0) {o n v n9 : Nat} {i : Int32} {k : Mem → Option β} (hn : n < 1000) (hk : ∀ M, wK Γ M → wK Γ (sR M o i.toNatClampNeg (some v))) (hs : On Γ o (5, n)) (hv : On Γ v (13, n9)) (d : decode cc pc = .ok (.aastore, 1)) (q : Nat) (hq : pc + 1 = q) (hf : wrR M o n i v k = some rM) (K : ∀ M1, k M1 = some rM → G Γ X M1 cs sl L st q) : G Γ X M cs sl L (.ref (wad Γ v) :: .int i :: .ref (wad Γ o) :: st) pc := by
  subst hq
  obtain ⟨p, e, R, s, m, args, below, meth, c, Q⟩ := X
  obtain ⟨hx, hb, hml, hown, hts, hW, hlk, hret, hR, hK, hSs, hG⟩ := C
  intro H locs ls a1 a2 a3 a4 a5
  obtain ⟨hi, hf⟩ := if_some hf
  have z1 : ∀ (M : Mem), cE (wA Γ) (wad Γ) M o (5, n) = .inl (wA Γ 5, n, .inr (.inr (.inr (.inr (fun j => (gR M o j).map (wad Γ)))))) := fun M => by
    have := cE_q (dA := wA Γ) (ad := wad Γ) (M := M) (o := o) (k := 0) hn
    rw [Nat.mul_zero, Nat.zero_add] at this
    exact this
  have hs1 : (wO Γ M)[px Γ o]? = some (wad Γ o, .inl (wA Γ 5, n, .inr (.inr (.inr (.inr (fun j => (gR M o j).map (wad Γ))))))) := by rw [wO_at hs, z1]
  have hv1 : (wO Γ M)[px Γ v]? = some (wad Γ v, .inr (7, fsO (wad Γ) M v 7)) := wO_at hv
  refine va_astq hx hb hK a2 a3 a4 (px Γ o) 4 (px Γ v) 7 hs1 rfl hv1 rfl (inB_in hi) d (fun H1 locs1 hP1 hD1 hS1 => ?_)
  have e1 : (wO Γ M).set (px Γ o) (wad Γ o, cE (wA Γ) (wad Γ) (sR M o i.toNatClampNeg (some v)) o (5, n)) = wO Γ (sR M o i.toNatClampNeg (some v)) := wO_set hs (fun a ha q => cE_sR ha q)
  have e2 : (fun j => (gR (sR M o i.toNatClampNeg (some v)) o j).map (wad Γ)) = va_up (fun j => (gR M o j).map (wad Γ)) i.toNatClampNeg (some (wad Γ v)) := by
    funext j
    simp only [gR_sR, va_up, true_and]
    split <;> rfl
  have e3 : cE (wA Γ) (wad Γ) (sR M o i.toNatClampNeg (some v)) o (5, n) = (Sum.inl (wA Γ 5, n, Sum.inr (Sum.inr (Sum.inr (Sum.inr (va_up (fun j => (gR M o j).map (wad Γ)) i.toNatClampNeg (some (wad Γ v))))))) : va_E) := by
    rw [← e2, z1]
  rw [← e3, e1] at hP1 hD1
  exact K _ hf H1 locs1 ls (hk _ a1) hP1 hD1 hS1 a5
end Steps2
