/-- whether the last kept digit goes up: R of U (and a bit more, if more) is cut off, q is kept -/
def ru_ (mode : Nat) (neg : Bool) (q R U : Nat) (more : Bool) : Bool :=
  if R = 0 ∧ more = false then false
  else if mode = 0 then decide (U < 2 * R ∨ (2 * R = U ∧ (more = true ∨ q % 2 = 1)))
  else if mode = 1 then decide (U ≤ 2 * R)
  else if mode = 2 then false
  else if mode = 3 then true
  else if mode = 4 then neg
  else if mode = 5 then !neg
  else decide (U < 2 * R ∨ (2 * R = U ∧ more = true))
theorem yu_101 (post : Int32 → Prop) (pr fl lo mr : Int32) (co ex di : Nat → Int32) (mode : Nat) (hm : mode ≤ 6) (neg odd ov hf : Bool)
    (h : post (bI_ (if mode = 0 then (ov || (hf && odd)) else if mode = 1 then (ov || hf) else if mode = 2 then false else if mode = 3 then true else if mode = 4 then neg else if mode = 5 then !neg else ov))) :
    wY_up_101 post (bI_ odd) (bI_ ov) (bI_ hf) pr (sI_ (mode : Int)) fl lo (bI_ neg) mr co ex di := by
  have cs : mode = 0 ∨ mode = 1 ∨ mode = 2 ∨ mode = 3 ∨ mode = 4 ∨ mode = 5 ∨ mode = 6 := by omega
  unfold wY_up_101
  rcases cs with e | e | e | e | e | e | e <;> subst e
  · refine br_t (by decide) (bI_br ov (fun e1 => bI_br hf (fun e2 => ?_) (fun e2 => bI_br odd (fun e3 => ?_) (fun e3 => ?_))) (fun e1 => ?_))
    · subst e1 e2; exact h
    · subst e1 e2 e3; exact h
    · subst e1 e2 e3; exact h
    · subst e1; exact h
  · refine br_f (by decide) (br_t (by decide) (bI_br ov (fun e1 => bI_br hf (fun e2 => ?_) (fun e2 => ?_)) (fun e1 => ?_)))
    · subst e1 e2; exact h
    · subst e1 e2; exact h
    · subst e1; exact h
  · exact br_f (by decide) (br_f (by decide) (br_t (by decide) h))
  · exact br_f (by decide) (br_f (by decide) (br_f (by decide) (br_t (by decide) h)))
  · exact br_f (by decide) (br_f (by decide) (br_f (by decide) (br_f (by decide) (br_t (by decide) ⟨bI_n neg, h⟩))))
  · refine br_f (by decide) (br_f (by decide) (br_f (by decide) (br_f (by decide) (br_f (by decide) (br_t (by decide) (bI_br neg (fun e1 => ?_) (fun e1 => ?_)))))))
    · subst e1; exact h
    · subst e1; exact h
  · exact br_f (by decide) (br_f (by decide) (br_f (by decide) (br_f (by decide) (br_f (by decide) (br_f (by decide) ⟨bI_n ov, h⟩)))))
theorem yu_63 (post : Int32 → Prop) (x2 pr mo fl lo ne mr : Int32) (co ex di : Nat → Int32) (a : Bool) (N : Nat) (hN : N < 10)
    (h : wY_up_101 post x2 (bI_ (decide (5 < N) || (decide (N = 5) && a))) (bI_ (decide (N = 5) && !a)) pr mo fl lo ne mr co ex di) :
    wY_up_63 post x2 (bI_ a) (sI_ (N : Int)) pr mo fl lo ne mr co ex di := by
  unfold wY_up_63
  refine sI_bLt 5 (N : Int) (fun g => ?_) (fun g => sI_bEq (N : Int) 5 (fun g5 => bI_br a (fun ea => ?_) (fun ea => ?_)) (fun g5 => ?_))
  · unfold wY_up_79 wY_up_84
    refine br_f (fun e => by have := (sI_eqI (a := N) (b := 5) (by omega) (by omega)).1 e; omega) ?_
    rw [show decide (5 < N) = true from decide_eq_true (by omega), show decide (N = 5) = false from decide_eq_false (by omega)] at h
    exact h
  · have e5 : N = 5 := by omega
    subst e5 ea
    exact br_t rfl (br_t rfl h)
  · have e5 : N = 5 := by omega
    subst e5 ea
    exact br_t rfl (br_f (by decide) h)
  · unfold wY_up_83 wY_up_84
    refine br_f (fun e => g5 ((sI_eqI (a := N) (b := 5) (by omega) (by omega)).1 e)) ?_
    rw [show decide (5 < N) = false from decide_eq_false (by omega), show decide (N = 5) = false from decide_eq_false (by omega)] at h
    exact h
/-- the digit after the cut and the rest below it, against a half -/
theorem yu_half {R N L T : Nat} (hR : R = L + T * N) (hL : L < T) (hN : N < 10) :
    (5 < N ∨ (N = 5 ∧ L ≠ 0) ↔ 10 * T < 2 * R) ∧ (N = 5 ∧ L = 0 ↔ 2 * R = 10 * T) ∧ (N = 0 ∧ L = 0 ↔ R = 0) := by
  have cs : N = 0 ∨ N = 1 ∨ N = 2 ∨ N = 3 ∨ N = 4 ∨ N = 5 ∨ N = 6 ∨ N = 7 ∨ N = 8 ∨ N = 9 := by omega
  rcases cs with e | e | e | e | e | e | e | e | e | e <;> subst e <;> refine ⟨⟨?_, ?_⟩, ⟨?_, ?_⟩, ⟨?_, ?_⟩⟩ <;> omega
