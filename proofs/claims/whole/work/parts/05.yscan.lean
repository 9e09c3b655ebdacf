/-- Y: top, bottom, part over the digits of M -/
theorem ys_ne {n : Nat} {A B : Prop} (h : n < 2147483648) (f : n = 0 → A) (g : n ≠ 0 → B) : (sI_ (n : Int) = 0 → A) ∧ (¬ sI_ (n : Int) = 0 → B) :=
  sI_bEq (n : Int) 0 (fun e => f (by omega)) (fun e => g (by omega))
theorem ys_top1 (post : Int32 → Prop) (pr mo fl lo ne mr : Int32) (co ex di : Nat → Int32) {M : Nat} (D : dg_ di M)
    (h0 : M = 0 → post (-1)) (h1 : ∀ t : Nat, t < 128 → 10 ^ t ≤ M → M < 10 ^ (t + 1) → post (sI_ (t : Int))) :
    ∀ d : Nat, d ≤ 128 → M < 10 ^ d → wY_top_3 post pr mo fl lo ne mr co ex di (d + 1) (sI_ ((d : Int) - 1)) := by
  intro d
  induction d with
  | zero =>
    intro _ hM
    exact sI_bLt (((0 : Nat) : Int) - 1) 0 (fun _ => h0 (by omega)) (fun hh => by omega)
  | succ d ih =>
    intro hd hM
    have e : sI_ (((d + 1 : Nat) : Int) - 1) = sI_ (d : Int) := by rw [show ((d + 1 : Nat) : Int) - 1 = (d : Int) from by omega]
    rw [e]
    refine sI_bLt (d : Int) 0 (fun hh => by omega) (fun _ => ⟨sI_in (by omega) (by omega), ?_⟩)
    rw [sI_cl (by omega), D d (by omega)]
    rw [Nat.pow_succ] at hM
    have hq : M / 10 ^ d < 10 := Nat.div_lt_of_lt_mul (by rw [Nat.mul_comm] at hM; rw [Nat.mul_comm]; exact hM)
    have hT := tn_ d
    refine ys_ne (by omega) (fun z => nm_r (sI_m1 (d : Int)) (ih (by omega) ?_)) (fun z => h1 d (by omega) ?_ ?_)
    · have : M / 10 ^ d = 0 := by generalize M / 10 ^ d = q at hq z ⊢; omega
      exact (Nat.div_eq_zero_iff_lt hT).1 this
    · have : 1 ≤ M / 10 ^ d := by generalize M / 10 ^ d = q at hq z ⊢; omega
      have := (Nat.le_div_iff_mul_le hT).1 this
      omega
    · rw [Nat.pow_succ]; exact hM
theorem ys_top {post : Int32 → Prop} {pr mo fl lo ne mr : Int32} {co ex di : Nat → Int32} {M : Nat} (D : dg_ di M) (hM : M < 10 ^ 128)
    (h0 : M = 0 → post (-1)) (h1 : ∀ t : Nat, t < 128 → 10 ^ t ≤ M → M < 10 ^ (t + 1) → post (sI_ (t : Int))) :
    wpY_top post (pr, mo, fl, lo, ne, mr, co, ex, di) :=
  ⟨129, ys_top1 post pr mo fl lo ne mr co ex di D h0 h1 128 (by omega) hM⟩
theorem ys_bot1 (post : Int32 → Prop) (pr mo fl lo ne mr : Int32) (co ex di : Nat → Int32) {M : Nat} (D : dg_ di M) (hM : M < 10 ^ 128) (h0 : M ≠ 0)
    (h1 : ∀ t : Nat, t < 128 → M % 10 ^ t = 0 → M % 10 ^ (t + 1) ≠ 0 → post (sI_ (t : Int))) :
    ∀ d j : Nat, j + d = 128 → M % 10 ^ j = 0 → wY_bottom_2 post pr mo fl lo ne mr co ex di (d + 1) (sI_ (j : Int)) := by
  intro d
  induction d with
  | zero =>
    intro j hj hz
    have : j = 128 := by omega
    subst this
    rw [Nat.mod_eq_of_lt hM] at hz
    exact absurd hz h0
  | succ d ih =>
    intro j hj hz
    refine sI_bLe 128 (j : Int) (fun hh => by omega) (fun _ => ⟨sI_in (by omega) (by omega), ?_⟩)
    rw [sI_cl (by omega), D j (by omega)]
    have hs := dd_m M j
    have hT := tn_ j
    refine ys_ne (by omega) (fun z => nm_r (sI_add j 1) (ih (j + 1) (by omega) ?_)) (fun z => h1 j (by omega) hz ?_)
    · rw [hs, hz, z]; rfl
    · rw [hs, hz]
      have := Nat.mul_pos hT (Nat.pos_of_ne_zero z)
      omega
theorem ys_bot {post : Int32 → Prop} {pr mo fl lo ne mr : Int32} {co ex di : Nat → Int32} {M : Nat} (D : dg_ di M) (hM : M < 10 ^ 128) (h0 : M ≠ 0)
    (h1 : ∀ t : Nat, t < 128 → M % 10 ^ t = 0 → M % 10 ^ (t + 1) ≠ 0 → post (sI_ (t : Int))) :
    wpY_bottom post (pr, mo, fl, lo, ne, mr, co, ex, di) :=
  ⟨129, ys_bot1 post pr mo fl lo ne mr co ex di D hM h0 h1 128 0 rfl (Nat.mod_one M)⟩
theorem ys_part1 (post : Int64 → Prop) (pr mo fl lo ne mr : Int32) (co ex di : Nat → Int32) {M : Nat} (D : dg_ di M) (f : Nat) (hf : f < 128) (hq : M / 10 ^ f < 10 ^ 18)
    (h : post (sL_ ((M / 10 ^ f : Nat) : Int))) :
    ∀ d : Nat, f + d ≤ 128 → wY_part_5 post (sI_ (f : Int)) pr mo fl lo ne mr co ex di (d + 1) (sL_ ((M / 10 ^ (f + d) : Nat) : Int)) (sI_ ((f + d : Nat) - 1 : Int)) := by
  intro d
  induction d with
  | zero =>
    intro _
    exact sI_bLt (((f + 0 : Nat) : Int) - 1) (f : Int) (fun _ => h) (fun hh => by omega)
  | succ d ih =>
    intro hd
    have e : sI_ (((f + (d + 1) : Nat) : Int) - 1) = sI_ ((f + d : Nat) : Int) := by rw [show ((f + (d + 1) : Nat) : Int) - 1 = ((f + d : Nat) : Int) from by omega]
    rw [e]
    refine sI_bLt ((f + d : Nat) : Int) (f : Int) (fun hh => by omega) (fun _ => sI_bLt ((f + d : Nat) : Int) 0 (fun hh => by omega) (fun _ => ⟨sI_in (by omega) (by omega), ?_⟩))
    rw [sI_cl (by omega), D (f + d) (by omega), sI_l (by omega) (by omega), show (10 : Int64) = sL_ 10 from rfl, sL_mul, sL_add]
    have hs := dd_s M (f + d)
    rw [show ((M / 10 ^ (f + (d + 1)) : Nat) : Int) * 10 + ((M / 10 ^ (f + d) % 10 : Nat) : Int) = ((M / 10 ^ (f + d) : Nat) : Int) from by
      rw [← Nat.add_assoc]; omega]
    exact nm_e (nm_r (sI_m1 ((f + d : Nat) : Int)) (ih (by omega)))
theorem ys_part {post : Int64 → Prop} {pr mo fl lo ne mr : Int32} {co ex di : Nat → Int32} {M : Nat} (D : dg_ di M) (f t : Nat) (ht : f ≤ t) (h1 : t < 128) (hM : M < 10 ^ (t + 1)) (hq : M / 10 ^ f < 10 ^ 18)
    (h : post (sL_ ((M / 10 ^ f : Nat) : Int))) :
    wpY_part post (pr, mo, fl, lo, ne, mr, co, ex, di) (sI_ (f : Int)) (sI_ (t : Int)) := by
  have k := ys_part1 post pr mo fl lo ne mr co ex di D f (by omega) hq h (t + 1 - f) (by omega)
  rw [show f + (t + 1 - f) = t + 1 from by omega, Nat.div_eq_of_lt hM, show ((t + 1 : Nat) : Int) - 1 = (t : Int) from by omega] at k
  exact ⟨_, k⟩
