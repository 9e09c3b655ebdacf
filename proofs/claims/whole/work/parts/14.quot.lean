/-- X: quotients -/
theorem xq_st {A B i : Nat} (hB : 0 < B) : A * 10 ^ (i + 1) / B = A * 10 ^ i / B * 10 + A * 10 ^ i % B * 10 / B ∧ A * 10 ^ (i + 1) % B = A * 10 ^ i % B * 10 % B := by
  have e : A * 10 ^ (i + 1) = (A * 10 ^ i / B * 10 + A * 10 ^ i % B * 10 / B) * B + A * 10 ^ i % B * 10 % B := by
    have h1 := Nat.div_add_mod (A * 10 ^ i) B
    have h2 := Nat.div_add_mod (A * 10 ^ i % B * 10) B
    rw [Nat.pow_succ, ← Nat.mul_assoc]
    generalize A * 10 ^ i / B = q at *
    generalize A * 10 ^ i % B = r at *
    generalize A * 10 ^ i = X at *
    generalize r * 10 / B = q2 at *
    generalize r * 10 % B = r2 at *
    have h3 : (q * 10 + q2) * B + r2 = (B * q) * 10 + (B * q2 + r2) := by grind
    omega
  exact xs_dm e (Nat.mod_lt _ hB)
theorem xq_126 {post : SX → Prop} {li : Int64} {ro ra ne sc ta : Int32} {ma : Int64} {co ex : Nat → Int32} (x y : Int) (r : Nat) (hx : x.natAbs < 10 ^ 15) (hy : y.natAbs < 10 ^ 15) (hr : r < 10 ^ 15)
    (h : post (li, ro, ra, bI_ (decide (x < 0) != decide (y < 0)), ma, sc, bI_ (decide (r ≠ 0)), co, ex)) :
    wX_holdQuotient_126 post (sL_ x) (sL_ y) (sL_ (r : Int)) li ro ra ne ma sc ta co ex := by
  have k : ∀ b : Bool, b = (decide (x < 0) != decide (y < 0)) → wX_holdQuotient_157 post (sL_ (r : Int)) (bI_ b) li ro ra ne ma sc ta co ex := by
    intro b hb
    refine ⟨bI_n b, bI_fit b, sL_bEq (r : Int) 0 (fun z => ?_) (fun z => ?_)⟩
    · rw [← hb, decide_eq_false (show ¬ r ≠ 0 from by omega)] at h
      exact h
    · rw [← hb, decide_eq_true (show r ≠ 0 from by omega)] at h
      exact h
  refine sL_bLe 0 x (fun z => sL_bLe 0 y (fun z2 => br_t rfl (k false ?_)) (fun z2 => br_f (by decide) (k true ?_))) (fun z => sL_bLe 0 y (fun z2 => br_f (by decide) (k true ?_)) (fun z2 => br_t rfl (k false ?_)))
  · rw [decide_eq_false (by omega), decide_eq_false (by omega)]; rfl
  · rw [decide_eq_false (by omega), decide_eq_true (by omega)]; rfl
  · rw [decide_eq_true (by omega), decide_eq_false (by omega)]; rfl
  · rw [decide_eq_true (by omega), decide_eq_true (by omega)]; rfl
theorem xq_52 (post : SX → Prop) (li : Int64) (ro ra ne ta : Int32) (co ex : Nat → Int32) (x y : Int64) (A B : Nat) (e : Int) (hA : A < 10 ^ 7) (hB : 0 < B ∧ B < 10 ^ 7)
    (h : ∀ i : Nat, i ≤ 14 → (A * 10 ^ i % B ≠ 0 → 10 ^ 7 ≤ A * 10 ^ i / B) → (A * 10 ^ i % B = 0 → i = 0 ∨ A * 10 ^ i / B % 10 ≠ 0) → A * 10 ^ i / B < 10 ^ 9 →
      wX_holdQuotient_126 post x y (sL_ ((A * 10 ^ i % B : Nat) : Int)) li ro ra ne (sL_ ((A * 10 ^ i / B : Nat) : Int)) (sI_ (e - i)) ta co ex) :
    ∀ d i : Nat, i + d = 14 → (A * 10 ^ i % B = 0 → i = 0 ∨ A * 10 ^ i / B % 10 ≠ 0) → A * 10 ^ i / B < 10 ^ 9 →
      wX_holdQuotient_52 post x y (sL_ (B : Int)) li ro ra ne ta co ex (d + 1) (sL_ ((A * 10 ^ i % B : Nat) : Int)) (sI_ (i : Int)) (sL_ ((A * 10 ^ i / B : Nat) : Int)) (sI_ (e - i)) := by
  intro d
  induction d with
  | zero =>
    intro i hi h1 h2
    refine sI_bLe 14 (i : Int) (fun _ => h i (by omega) ?_ h1 h2) (fun hh => by omega)
    intro z
    have e14 : i = 14 := by omega
    subst e14
    have a1 : 1 ≤ A := by
      by_cases c : A = 0
      · subst c; rw [Nat.zero_mul, Nat.zero_mod] at z; exact absurd rfl z
      · omega
    rw [Nat.le_div_iff_mul_le hB.1]
    omega
  | succ d ih =>
    intro i hi h1 h2
    have st := xq_st (A := A) (i := i) hB.1
    have hr : A * 10 ^ i % B < B := Nat.mod_lt _ hB.1
    have hi1 := ih (i + 1) (by omega)
    have hh := h i (by omega)
    rw [st.1, st.2] at hi1
    clear st ih h
    have n1 := Int.natCast_nonneg (A * 10 ^ i % B)
    have n2 := Int.natCast_nonneg (A * 10 ^ i / B)
    generalize A * 10 ^ i / B = g at *
    generalize A * 10 ^ i % B = r at *
    have hB0 : ¬ sL_ (B : Int) = 0 := sL_n0 (by omega) (by omega)
    refine sI_bLe 14 (i : Int) (fun hh => by omega) (fun _ => sL_bEq (r : Int) 0 (fun z => hh (fun c => by omega) h1 h2) (fun z => sL_bLe 10000000 (g : Int) (fun z2 => hh (fun _ => by omega) h1 h2) (fun z2 => ?_)))
    have q1 : r * 10 / B < 10 := by
      rw [Nat.div_lt_iff_lt_mul hB.1]; omega
    have e1 : sL_ ((r : Int) * 10) / sL_ (B : Int) = sL_ ((r * 10 / B : Nat) : Int) := by
      rw [sL_div (by omega) (by omega), show (r : Int) * 10 = ((r * 10 : Nat) : Int) from by omega, Int.natCast_tdiv_eq_ediv]
      congr 1
    have e2 : sL_ ((r : Int) * 10) - sL_ ((r : Int) * 10) / sL_ (B : Int) * sL_ (B : Int) = sL_ ((r * 10 % B : Nat) : Int) := by
      rw [sL_rem (by omega) (by omega), show (r : Int) * 10 = ((r * 10 : Nat) : Int) from by omega, Int.tmod_eq_emod_of_nonneg (by omega)]
      congr 1
    refine nm_r (sL_mul (r : Int) 10) ⟨hB0, nm_r (e' := sL_ ((g * 10 + r * 10 / B : Nat) : Int)) ?_ ⟨hB0, nm_r e2 (nm_r (e' := sI_ (e - (i + 1 : Nat))) ?_ (nm_r (sI_add i 1) (hi1 ?_ ?_)))⟩⟩
    · rw [e1, show (10 : Int64) = sL_ 10 from rfl, sL_mul, sL_add]
      congr 1
    · rw [show (1 : Int32) = sI_ 1 from rfl, sI_sub]
      congr 1
      omega
    · intro z3
      right
      have := Nat.div_add_mod (r * 10) B
      rw [z3] at this
      have : r * 10 / B ≠ 0 := by
        intro z4
        rw [z4] at this
        omega
      clear e1 e2 hi1
      generalize r * 10 / B = q at *
      omega
    · clear e1 e2 hi1
      generalize r * 10 / B = q at *
      omega
theorem xq_quot {post : SX → Prop} {li ma : Int64} {ro ra ne sc ta : Int32} {co ex : Nat → Int32} (x y e : Int) (hx : x.natAbs < 10 ^ 7) (hy : y.natAbs < 10 ^ 7) (hy0 : y ≠ 0)
    (h : ∀ i : Nat, i ≤ 14 → (x.natAbs * 10 ^ i % y.natAbs ≠ 0 → 10 ^ 7 ≤ x.natAbs * 10 ^ i / y.natAbs) → (x.natAbs * 10 ^ i % y.natAbs = 0 → i = 0 ∨ x.natAbs * 10 ^ i / y.natAbs % 10 ≠ 0) → x.natAbs * 10 ^ i / y.natAbs < 10 ^ 9 →
      post (li, ro, ra, bI_ (decide (x < 0) != decide (y < 0)), sL_ ((x.natAbs * 10 ^ i / y.natAbs : Nat) : Int), sI_ (e - i), bI_ (decide (x.natAbs * 10 ^ i % y.natAbs ≠ 0)), co, ex)) :
    wpX_holdQuotient post (li, ro, ra, ne, ma, sc, ta, co, ex) (sL_ x) (sL_ y) (sI_ e) := by
  have key : ∀ z : Int, z = (y.natAbs : Int) → wX_holdQuotient_12 post (sL_ x) (sL_ y) (sI_ e) (sL_ z) li ro ra ne ma sc ta co ex := by
    intro z hz
    subst hz
    unfold wX_holdQuotient_12
    have hn : ¬ sL_ (y.natAbs : Int) = 0 := sL_n0 (by omega) (by omega)
    have k := xq_52 post li ro ra (bI_ (decide (x < 0))) (bI_ false) co ex (sL_ x) (sL_ y) x.natAbs y.natAbs e hx (by omega) (fun i hi h1 h2 h3 => xq_126 x y _ (by omega) (by omega) (by have := Nat.mod_lt (x.natAbs * 10 ^ i) (show 0 < y.natAbs from by omega); omega) (h i hi h1 h2 h3)) 14 0 (by omega) (fun _ => Or.inl rfl) (by
      rw [Nat.pow_zero, Nat.mul_one]
      have := Nat.div_le_self x.natAbs y.natAbs
      omega)
    rw [Nat.pow_zero, Nat.mul_one, show e - ((0 : Nat) : Int) = e from by omega] at k
    refine xa_hold x (by omega) (br_f hn ⟨hn, nm_r (e' := sL_ ((x.natAbs % y.natAbs : Nat) : Int)) ?_ ⟨hn, nm_r (e' := sL_ ((x.natAbs / y.natAbs : Nat) : Int)) ?_ ⟨15, k⟩⟩⟩)
    · rw [sL_rem (by omega) (by omega), Int.tmod_eq_emod_of_nonneg (by omega)]
      congr 1
    · rw [sL_div (by omega) (by omega), Int.natCast_tdiv_eq_ediv]
      congr 1
  refine sL_bLe 0 y (fun z => key y (by omega)) (fun z => ?_)
  rw [sL_neg]
  exact key (-y) (by omega)
/-- Y: divide -/
theorem yq_141 (post : Int32 → SY → Prop) (x1 x2 x3 x4 pr mo fl lo ne mr : Int32) (co ex : Nat → Int32) (A B : Nat) (hB : 0 < B ∧ B < 10 ^ 7)
    (h : ∀ di : Nat → Int32, dv_ di 128 = ((A * 10 ^ 40 / B : Nat) : Int) → (∀ i, i < 128 → -50 ≤ (di i).toInt ∧ (di i).toInt ≤ 50) → wY_divide_215 post x1 x2 x3 x4 (bI_ (decide (A * 10 ^ 40 % B ≠ 0))) pr mo fl lo ne mr co ex di) :
    ∀ (d j : Nat) (di : Nat → Int32), j + d = 40 → (∀ i, i < d → di i = 0) → dv_ di 128 = ((A * 10 ^ j / B * 10 ^ d : Nat) : Int) → (∀ i, i < 128 → -50 ≤ (di i).toInt ∧ (di i).toInt ≤ 50) →
      wY_divide_141 post x1 x2 x3 x4 (sL_ (B : Int)) pr mo fl lo ne mr (d + 1) (sL_ ((A * 10 ^ j % B : Nat) : Int)) (sI_ ((d : Int) - 1)) co ex di := by
  intro d
  induction d with
  | zero =>
    intro j di hj h1 h2 h3
    have e40 : j = 40 := by omega
    subst e40
    rw [Nat.pow_zero, Nat.mul_one] at h2
    have k := h di h2 h3
    have hr : A * 10 ^ 40 % B < B := Nat.mod_lt _ hB.1
    generalize A * 10 ^ 40 % B = r at *
    refine sI_bLt (((0 : Nat) : Int) - 1) 0 (fun _ => sL_bEq (r : Int) 0 (fun z => ?_) (fun z => ?_)) (fun hh => by omega)
    · rw [decide_eq_false (show ¬ r ≠ 0 from by omega)] at k
      exact k
    · rw [decide_eq_true (show r ≠ 0 from by omega)] at k
      exact k
  | succ d ih =>
    intro j di hj h1 h2 h3
    have st := xq_st (A := A) (i := j) hB.1
    have hr : A * 10 ^ j % B < B := Nat.mod_lt _ hB.1
    have hi1 := fun di' => ih (j + 1) di' (by omega)
    rw [st.1, st.2] at hi1
    clear st ih h
    generalize A * 10 ^ j / B = g at *
    generalize A * 10 ^ j % B = r at *
    have hB0 : ¬ sL_ (B : Int) = 0 := sL_n0 (by omega) (by omega)
    have q1 : r * 10 / B < 10 := by
      rw [Nat.div_lt_iff_lt_mul hB.1]; omega
    have e1 : sL_ ((r : Int) * 10) / sL_ (B : Int) = sL_ ((r * 10 / B : Nat) : Int) := by
      rw [sL_div (by omega) (by omega), show (r : Int) * 10 = ((r * 10 : Nat) : Int) from by omega, Int.natCast_tdiv_eq_ediv]
      congr 1
    have e2 : sL_ ((r : Int) * 10) - sL_ ((r : Int) * 10) / sL_ (B : Int) * sL_ (B : Int) = sL_ ((r * 10 % B : Nat) : Int) := by
      rw [sL_rem (by omega) (by omega), show (r : Int) * 10 = ((r * 10 : Nat) : Int) from by omega, Int.tmod_eq_emod_of_nonneg (by omega)]
      congr 1
    have ed : sI_ (((d + 1 : Nat) : Int) - 1) = sI_ (d : Int) := by rw [show ((d + 1 : Nat) : Int) - 1 = (d : Int) from by omega]
    rw [ed]
    refine sI_bLt (d : Int) 0 (fun hh => by omega) (fun _ => nm_r (sL_mul (r : Int) 10) (sL_bLe (B : Int) 0 (fun hh => by omega) (fun _ => ⟨hB0, ?_⟩)))
    rw [e1]
    refine ⟨sI_in (by omega) (by omega), nm_e (sL_bLe (B : Int) 0 (fun hh => by omega) (fun _ => ⟨hB0, nm_r e2 (nm_r (sI_m1 (d : Int)) ?_)⟩))⟩
    rw [sI_cl (by omega), sL_i]
    have n1 := Int.natCast_nonneg (r * 10 / B)
    have hx : (sI_ ((r * 10 / B : Nat) : Int)).toInt = ((r * 10 / B : Nat) : Int) := sI_t (by omega) (by omega)
    refine hi1 _ ?_ ?_ ?_
    · intro i hi
      rw [dv_un _ _ (by omega)]; exact h1 i (by omega)
    · rw [dv_ult _ _ (by omega), hx, h2, h1 d (by omega), Int32.toInt_zero]
      rw [Nat.pow_succ]
      generalize r * 10 / B = q at *
      rw [← tc_ d]
      generalize 10 ^ d = T
      simp only [Int.natCast_mul, Int.natCast_add]
      grind
    · intro i hi
      by_cases c : i = d
      · subst c; rw [dv_us, hx]; omega
      · rw [dv_un _ _ c]; exact h3 i hi
