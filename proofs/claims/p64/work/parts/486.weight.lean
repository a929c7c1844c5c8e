/-! bestWeight -/
theorem two_sum {m a o w : Nat} (hm : m ≤ 3) (ha : a < m) (ho : o < m) (hao : a ≠ o) (hw : w ≤ 10) : sm m (fun k => if k = a then 10 - w else if k = o then w else 0) = 10 := by
  have h2 : m = 2 ∨ m = 3 := by omega
  have q : ∀ k, (if k = a then 10 - w else if k = o then w else 0) = if k = a then 10 - w else if k = o then w else 0 := fun _ => rfl
  rcases h2 with g | g
  · subst g
    show 0 + (if 0 = a then 10 - w else if 0 = o then w else 0) + (if 1 = a then 10 - w else if 1 = o then w else 0) = 10
    repeat' split
    all_goals omega
  · subst g
    show 0 + (if 0 = a then 10 - w else if 0 = o then w else 0) + (if 1 = a then 10 - w else if 1 = o then w else 0) + (if 2 = a then 10 - w else if 2 = o then w else 0) = 10
    repeat' split
    all_goals omega
def wTwo (W0 : Nat → Nat) (x a o w r : Nat) : Nat := if r = x * 3 + a then 10 - w else if r = x * 3 + o then w else if r / 3 = x then 0 else W0 r
theorem wTwo_WOK {P : Nat → Int32} (hV : VP P) {W0 : Nat → Nat} (h0 : WOK P W0) {x a o w : Nat} (ha : a < cM P x) (ho : o < cM P x) (hao : a ≠ o) (hw : w ≤ 10) : WOK P (wTwo W0 x a o w) := by
  have hm := hV.sz.2.1 x
  refine ⟨fun r => ?_, fun y hy => ?_⟩
  · have := h0.1 r
    unfold wTwo
    repeat' split
    all_goals omega
  · by_cases c : y = x
    · subst c
      rw [← two_sum hm ha ho hao hw]
      refine sm_congr (fun k hk => ?_)
      unfold wTwo
      by_cases d : k = a
      · rw [if_pos (by omega), if_pos d]
      · rw [if_neg (by omega), if_neg d]
        by_cases e : k = o
        · rw [if_pos (by omega), if_pos e]
        · rw [if_neg (by omega), if_neg e, if_pos (by omega)]
    · rw [← h0.2 y hy]
      refine sm_congr (fun k hk => ?_)
      have := hV.sz.2.1 y
      unfold wTwo
      rw [if_neg (by omega), if_neg (by omega), if_neg (by omega)]
/-- of the weights below w: the first of the greatest gain that holds -/
def BW (P S : Nat → Int32) (x a o : Nat) : Nat → Option (Nat × Int64)
  | 0 => none
  | w + 1 => if brk (brN P S (wTwo (sW9 S) x a o w)) (cB P) = 0 then (match BW P S x a o w with
      | none => some (w, gRun P (wTwo (sW9 S) x a o w) (pn S 0) (pn S 1))
      | some q => if q.2 < gRun P (wTwo (sW9 S) x a o w) (pn S 0) (pn S 1) then some (w, gRun P (wTwo (sW9 S) x a o w) (pn S 0) (pn S 1)) else some q)
    else BW P S x a o w
def xB : Option (Nat × Int64) → Int32
  | none => -1
  | some q => nI q.1
def gB (d : Int64) : Option (Nat × Int64) → Int64
  | none => d
  | some q => q.2
theorem BW_lt {P S : Nat → Int32} {x a o : Nat} : ∀ w q, BW P S x a o w = some q → q.1 < w
  | 0, q, h => absurd h (by simp [BW])
  | w + 1, q, h => by
    have ih := BW_lt (P := P) (S := S) (x := x) (a := a) (o := o) w
    unfold BW at h
    split at h
    · cases g : BW P S x a o w with
      | none =>
        rw [g] at h
        have := Option.some.inj h
        rw [← this]
        exact Nat.lt_succ_self w
      | some q2 =>
        rw [g] at h
        have i2 := ih q2 g
        dsimp only at h
        split at h
        · have := Option.some.inj h
          rw [← this]
          exact Nat.lt_succ_self w
        · have := Option.some.inj h
          rw [← this]
          omega
    · have := ih q h
      omega
