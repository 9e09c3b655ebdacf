/-- Y: up -/
theorem yv_ov {R N L T : Nat} (more : Bool) (hR : R = L + T * N) (hL : L < T) (hN : N < 10) :
    (decide (5 < N) || (decide (N = 5) && (more || decide (L ≠ 0)))) = decide (10 * T < 2 * R ∨ (2 * R = 10 * T ∧ more = true)) ∧
    (decide (N = 5) && !(more || decide (L ≠ 0))) = decide (2 * R = 10 * T ∧ more = false) := by
  obtain ⟨h1, h2, h3⟩ := yu_half hR hL hN
  cases more
  · refine ⟨?_, ?_⟩
    · rw [Bool.eq_iff_iff]
      simp only [Bool.false_or, Bool.or_eq_true, Bool.and_eq_true, decide_eq_true_eq, Bool.false_eq_true, and_false, or_false]
      exact h1
    · rw [Bool.eq_iff_iff]
      simp only [Bool.false_or, Bool.and_eq_true, Bool.not_eq_true', decide_eq_false_iff_not, decide_eq_true_eq, and_true, Decidable.not_not]
      exact h2
  · refine ⟨?_, ?_⟩
    · rw [Bool.eq_iff_iff]
      simp only [Bool.true_or, Bool.or_eq_true, Bool.and_eq_true, decide_eq_true_eq, and_true]
      constructor
      · intro g
        by_cases z : L = 0
        · rcases g with g | g
          · exact Or.inl (h1.1 (Or.inl g))
          · exact Or.inr (h2.1 ⟨g, z⟩)
        · rcases g with g | g
          · exact Or.inl (h1.1 (Or.inl g))
          · exact Or.inl (h1.1 (Or.inr ⟨g, z⟩))
      · intro g
        rcases g with g | g
        · rcases h1.2 g with g | g
          · exact Or.inl g
          · exact Or.inr g.1
        · exact Or.inr (h2.2 g).1
    · rw [Bool.eq_iff_iff]
      simp
theorem yv_ru {R U : Nat} (mode : Nat) (neg more : Bool) (q : Nat) (h0 : ¬ (R = 0 ∧ more = false)) :
    (if mode = 0 then (decide (U < 2 * R ∨ (2 * R = U ∧ more = true)) || (decide (2 * R = U ∧ more = false) && decide (q % 2 = 1))) else if mode = 1 then (decide (U < 2 * R ∨ (2 * R = U ∧ more = true)) || decide (2 * R = U ∧ more = false)) else if mode = 2 then false else if mode = 3 then true else if mode = 4 then neg else if mode = 5 then !neg else decide (U < 2 * R ∨ (2 * R = U ∧ more = true))) = ru_ mode neg q R U more := by
  unfold ru_
  rw [if_neg h0]
  by_cases m0 : mode = 0
  · rw [if_pos m0, if_pos m0, Bool.eq_iff_iff]
    simp only [Bool.or_eq_true, Bool.and_eq_true, decide_eq_true_eq]
    cases more <;> simp <;> omega
  · rw [if_neg m0, if_neg m0]
    by_cases m1 : mode = 1
    · rw [if_pos m1, if_pos m1, Bool.eq_iff_iff]
      simp only [Bool.or_eq_true, Bool.and_eq_true, decide_eq_true_eq]
      cases more <;> simp <;> omega
    · rw [if_neg m1, if_neg m1]
theorem yv_50 (post : Int32 → Prop) (pr fl lo mr : Int32) (co ex di : Nat → Int32) (mode : Nat) (hm : mode ≤ 6) (neg more : Bool) {R N L T : Nat} (q : Nat)
    (hR : R = L + T * N) (hL : L < T) (hN : N < 10) (h : post (bI_ (ru_ mode neg q R (10 * T) more))) :
    wY_up_50 post (bI_ (decide (q % 2 = 1))) (bI_ (more || decide (L ≠ 0))) (sI_ (N : Int)) pr (sI_ (mode : Int)) fl lo (bI_ neg) mr co ex di := by
  obtain ⟨h1, h2⟩ := yv_ov more hR hL hN
  have h3 := (yu_half hR hL hN).2.2
  have k : ¬ (R = 0 ∧ more = false) → wY_up_63 post (bI_ (decide (q % 2 = 1))) (bI_ (more || decide (L ≠ 0))) (sI_ (N : Int)) pr (sI_ (mode : Int)) fl lo (bI_ neg) mr co ex di := by
    intro h0
    refine yu_63 _ _ _ _ _ _ _ _ _ _ _ _ N hN ?_
    rw [h1, h2]
    refine yu_101 post pr fl lo mr co ex di mode hm neg _ _ _ ?_
    rw [yv_ru mode neg more q h0]
    exact h
  unfold wY_up_50
  refine ys_ne (by omega) (fun z => bI_br _ (fun z2 => ?_) (fun z2 => k ?_)) (fun z => k ?_)
  · rw [Bool.or_eq_false_iff, decide_eq_false_iff_not] at z2
    have : ru_ mode neg q R (10 * T) more = false := by
      unfold ru_
      rw [if_pos ⟨h3.1 ⟨z, by omega⟩, z2.1⟩]
    rw [this] at h
    exact h
  · intro c
    have := h3.2 c.1
    rw [c.2, decide_eq_false (by omega)] at z2
    exact absurd z2 (by decide)
  · intro c
    exact z (h3.2 c.1).1
theorem yv_up1 (post : Int32 → Prop) (pr fl lo mr : Int32) (co ex di : Nat → Int32) (mode : Nat) (hm : mode ≤ 6) (neg more : Bool) {M : Nat} (D : dg_ di M) (q i : Nat) (hi : i < 128)
    (h : post (bI_ (ru_ mode neg q (M % 10 ^ (i + 1)) (10 ^ (i + 1)) more))) :
    ∀ d k : Nat, k + d = i → wY_up_8 post (sI_ ((i + 1 : Nat) : Int)) (bI_ (decide (q % 2 = 1))) pr (sI_ (mode : Int)) fl lo (bI_ neg) mr co ex di (d + 1) (bI_ (more || decide (M % 10 ^ k ≠ 0))) (sI_ (k : Int)) := by
  have e1 : sI_ ((i + 1 : Nat) : Int) - 1 = sI_ (i : Int) := by
    rw [show (1 : Int32) = sI_ 1 from rfl, sI_sub, show ((i + 1 : Nat) : Int) - 1 = (i : Int) from by omega]
  intro d
  induction d with
  | zero =>
    intro k hk
    have : k = i := by omega
    subst this
    show (_ ∧ _)
    rw [e1]
    refine br_t (Int32.le_refl _) (sI_bLe ((k + 1 : Nat) : Int) 0 (fun hh => by omega) (fun _ => ⟨sI_in hi (by omega), ?_⟩))
    rw [sI_cl (by omega), D k hi]
    refine yv_50 post pr fl lo mr co ex di mode hm neg more (R := M % 10 ^ (k + 1)) (T := 10 ^ k) q (dd_m M k) (Nat.mod_lt _ (tn_ k)) (Nat.mod_lt _ (by decide)) ?_
    rw [Nat.mul_comm, ← Nat.pow_succ]
    exact h
  | succ d ih =>
    intro k hk
    show (_ ∧ _)
    rw [e1]
    refine sI_bLe (i : Int) (k : Int) (fun hh => by omega) (fun _ => ⟨sI_in (by omega) (by omega), ?_⟩)
    rw [sI_cl (by omega), D k (by omega)]
    have hs := dd_m M k
    have hk1 := ih (k + 1) (by omega)
    refine ys_ne (by omega) (fun z => nm_r (sI_add k 1) ?_) (fun z => nm_r (sI_add k 1) ?_)
    · rw [hs, z, Nat.mul_zero, Nat.add_zero] at hk1
      exact hk1
    · have hp := Nat.mul_pos (tn_ k) (Nat.pos_of_ne_zero z)
      rw [decide_eq_true (show M % 10 ^ (k + 1) ≠ 0 from by rw [hs]; omega), Bool.or_true] at hk1
      exact hk1
theorem yv_up {post : Int32 → Prop} {pr fl lo : Int32} {co ex di : Nat → Int32} (mode : Nat) (hm : mode ≤ 6) (neg more : Bool) {M : Nat} (D : dg_ di M) (q i : Nat) (hi : i ≤ 128) (h0 : i = 0 → more = false)
    (h : post (bI_ (ru_ mode neg q (M % 10 ^ i) (10 ^ i) more))) :
    wpY_up post (pr, sI_ (mode : Int), fl, lo, bI_ neg, bI_ more, co, ex, di) (sI_ (i : Int)) (bI_ (decide (q % 2 = 1))) := by
  cases i with
  | zero =>
    rw [h0 rfl]
    have e : ru_ mode neg q (M % 10 ^ 0) (10 ^ 0) more = false := by
      unfold ru_
      rw [if_pos ⟨Nat.mod_one M, h0 rfl⟩]
    rw [e] at h
    exact ⟨1, br_t (by decide) (br_t (by decide) (br_t rfl (br_t rfl h)))⟩
  | succ i =>
    have k := yv_up1 post pr fl lo (bI_ more) co ex di mode hm neg more D q i (by omega) h i 0 (by omega)
    rw [Nat.pow_zero, Nat.mod_one, show decide ((0 : Nat) ≠ 0) = false from rfl, Bool.or_false] at k
    exact ⟨_, k⟩
