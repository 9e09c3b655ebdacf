/-- X: powerOfTen, hold, dropDigits -/
theorem xa_pow1 (post : Int64 → Prop) (n N : Nat) (hn : n < 1000000) (hN : (N = n ∧ n ≤ 18) ∨ (N = 18 ∧ 18 ≤ n)) (h : post (sL_ ((10 ^ N : Nat) : Int))) :
    ∀ d i : Nat, i + d = N → wX_powerOfTen_4 post (sI_ (n : Int)) (d + 1) (sL_ ((10 ^ i : Nat) : Int)) (sI_ (i : Int)) := by
  intro d
  induction d with
  | zero =>
    intro i hi
    have : i = N := by omega
    subst this
    exact sI_bLe (n : Int) (i : Int) (fun _ => h) (fun _ => sI_bLe 18 (i : Int) (fun _ => h) (fun hh => by omega))
  | succ d ih =>
    intro i hi
    refine sI_bLe (n : Int) (i : Int) (fun hh => by omega) (fun _ => sI_bLe 18 (i : Int) (fun hh => by omega) (fun _ => nm_r (e' := sL_ ((10 ^ (i + 1) : Nat) : Int)) ?_ (nm_r (sI_add i 1) (ih (i + 1) (by omega)))))
    rw [show (10 : Int64) = sL_ 10 from rfl, sL_mul, Nat.pow_succ]
    rfl
theorem xa_pow {post : Int64 → Prop} (n N : Nat) (hn : n < 1000000) (hN : (N = n ∧ n ≤ 18) ∨ (N = 18 ∧ 18 ≤ n)) (h : post (sL_ ((10 ^ N : Nat) : Int))) :
    wpX_powerOfTen post (sI_ (n : Int)) :=
  ⟨N + 1, xa_pow1 post n N hn hN h N 0 (by omega)⟩
theorem xa_hold {post : SX → Prop} {li ma : Int64} {ro ra ne sc ta e : Int32} {co ex : Nat → Int32} (z : Int) (hz : -9223372036854775808 < z ∧ z < 9223372036854775808)
    (h : post (li, ro, ra, bI_ (decide (z < 0)), sL_ (z.natAbs : Int), e, bI_ false, co, ex)) :
    wpX_hold post (li, ro, ra, ne, ma, sc, ta, co, ex) (sL_ z) e := by
  refine sL_bLe 0 z (fun q => ?_) (fun q => ?_)
  · rw [decide_eq_false (by omega), show (z.natAbs : Int) = z from by omega] at h
    exact ⟨rfl, rfl, br_t rfl h⟩
  · rw [decide_eq_true (by omega), show (z.natAbs : Int) = -z from by omega] at h
    refine ⟨rfl, rfl, br_f (by decide) ?_⟩
    rw [sL_neg]
    exact h
theorem xa_away {post : Int32 → Prop} {li : Int64} {ra sc ta : Int32} {co ex : Nat → Int32} (mode : Nat) (hm : mode ≤ 6) (neg : Bool) (q : Nat) (hq : q < 9 * 10 ^ 18) (hh : Int) (h3 : -1 ≤ hh ∧ hh ≤ 1)
    (h : post (bI_ (if mode = 0 then decide (0 < hh ∨ (hh = 0 ∧ q % 2 = 1)) else if mode = 1 then decide (0 ≤ hh) else if mode = 2 then false else if mode = 3 then true else if mode = 4 then neg else if mode = 5 then !neg else decide (0 < hh)))) :
    wpX_goesAway post (li, sI_ (mode : Int), ra, bI_ neg, sL_ (q : Int), sc, ta, co, ex) (sI_ hh) := by
  have cs : mode = 0 ∨ mode = 1 ∨ mode = 2 ∨ mode = 3 ∨ mode = 4 ∨ mode = 5 ∨ mode = 6 := by omega
  unfold wpX_goesAway
  rcases cs with e | e | e | e | e | e | e <;> subst e
  · refine br_f (by decide) (br_f (by decide) (br_t (by decide) (sI_bLt 0 hh (fun z => ?_) (fun z => sI_bEq hh 0 (fun z2 => ⟨sL_2, ?_⟩) (fun z2 => ?_)))))
    · rw [if_pos rfl, decide_eq_true (Or.inl z)] at h
      exact h
    · rw [sL_rem2 (by omega), Int.tmod_eq_emod_of_nonneg (by omega)]
      rw [if_pos rfl] at h
      refine sL_bEq ((q : Int) % 2) 0 (fun z3 => ?_) (fun z3 => ?_)
      · rw [decide_eq_false (by omega)] at h
        exact h
      · rw [decide_eq_true (by omega)] at h
        exact h
    · rw [if_pos rfl, decide_eq_false (by omega)] at h
      exact h
  · refine br_f (by decide) (br_f (by decide) (br_f (by decide) (br_t (by decide) (sI_bLt hh 0 (fun z => ?_) (fun z => ?_)))))
    · rw [if_neg (by decide), if_pos rfl, decide_eq_false (by omega)] at h
      exact h
    · rw [if_neg (by decide), if_pos rfl, decide_eq_true (by omega)] at h
      exact h
  · exact br_f (by decide) (br_f (by decide) (br_f (by decide) (br_f (by decide) (br_t (by decide) h))))
  · exact br_f (by decide) (br_f (by decide) (br_f (by decide) (br_f (by decide) (br_f (by decide) (br_t (by decide) h)))))
  · exact br_f (by decide) (br_f (by decide) (br_f (by decide) (br_f (by decide) (br_f (by decide) (br_f (by decide) (br_t (by decide) ⟨bI_n neg, h⟩))))))
  · refine br_f (by decide) (br_f (by decide) (br_f (by decide) (br_f (by decide) (br_f (by decide) (br_f (by decide) (br_f (by decide) (br_t (by decide) (bI_br neg (fun e1 => ?_) (fun e1 => ?_)))))))))
    · subst e1; exact h
    · subst e1; exact h
  · refine br_f (by decide) (br_t (by decide) (sI_bLe hh 0 (fun z => ?_) (fun z => ?_)))
    · rw [if_neg (by decide), if_neg (by decide), if_neg (by decide), if_neg (by decide), if_neg (by decide), if_neg (by decide), decide_eq_false (by omega)] at h
      exact h
    · rw [if_neg (by decide), if_neg (by decide), if_neg (by decide), if_neg (by decide), if_neg (by decide), if_neg (by decide), decide_eq_true (by omega)] at h
      exact h
theorem xa_hh {R U q : Nat} (mode : Nat) (neg tail : Bool) (hh : Int) (h0 : ¬ (R = 0 ∧ tail = false)) (h1 : 0 < hh ↔ (U < 2 * R ∨ (2 * R = U ∧ tail = true))) (h2 : hh = 0 ↔ (2 * R = U ∧ tail = false)) :
    (if mode = 0 then decide (0 < hh ∨ (hh = 0 ∧ q % 2 = 1)) else if mode = 1 then decide (0 ≤ hh) else if mode = 2 then false else if mode = 3 then true else if mode = 4 then neg else if mode = 5 then !neg else decide (0 < hh)) = ru_ mode neg q R U tail := by
  unfold ru_
  rw [if_neg h0]
  by_cases m0 : mode = 0
  · rw [if_pos m0, if_pos m0, decide_eq_decide, h1, h2]
    cases tail <;> simp <;> omega
  · rw [if_neg m0, if_neg m0]
    by_cases m1 : mode = 1
    · rw [if_pos m1, if_pos m1, decide_eq_decide, show (0 ≤ hh) ↔ (0 < hh ∨ hh = 0) from by omega, h1, h2]
      cases tail <;> simp <;> omega
    · rw [if_neg m1, if_neg m1]
      by_cases m2 : mode = 2
      · rw [if_pos m2, if_pos m2]
      · rw [if_neg m2, if_neg m2]
        by_cases m3 : mode = 3
        · rw [if_pos m3, if_pos m3]
        · rw [if_neg m3, if_neg m3]
          by_cases m4 : mode = 4
          · rw [if_pos m4, if_pos m4]
          · rw [if_neg m4, if_neg m4]
            by_cases m5 : mode = 5
            · rw [if_pos m5, if_pos m5]
            · rw [if_neg m5, if_neg m5, decide_eq_decide, h1]
theorem xa_49 {post : Int32 → SX → Prop} {li : Int64} {ra sc : Int32} {co ex : Nat → Int32} (mode : Nat) (hm : mode ≤ 6) (neg tail : Bool) (q R U : Nat) (hq : q < 9 * 10 ^ 18) (hR : R < U) (hU : U ≤ 10 ^ 18) (h0 : ¬ (R = 0 ∧ tail = false))
    (h : post 1 (li, sI_ (mode : Int), ra, bI_ neg, sL_ ((if ru_ mode neg q R U tail = true then q + 1 else q : Nat) : Int), sc, bI_ tail, co, ex)) :
    wX_dropDigits_49 post (sL_ (U : Int)) (sL_ (R : Int)) li (sI_ (mode : Int)) ra (bI_ neg) (sL_ (q : Int)) sc (bI_ tail) co ex := by
  have key : ∀ (x : Int32) (hh : Int), x = sI_ hh → -1 ≤ hh ∧ hh ≤ 1 → (0 < hh ↔ (U < 2 * R ∨ (2 * R = U ∧ tail = true))) → (hh = 0 ↔ (2 * R = U ∧ tail = false)) →
      wpX_goesAway (fun r_18 => (((r_18 = 0 → (post 1 (li, sI_ (mode : Int), ra, bI_ neg, sL_ (q : Int), sc, bI_ tail, co, ex))) ∧ (¬ r_18 = 0 → (∀ f_magnitude_29 : Int64, f_magnitude_29 = sL_ (q : Int) + 1 → (post 1 (li, sI_ (mode : Int), ra, bI_ neg, f_magnitude_29, sc, bI_ tail, co, ex))))))) (li, sI_ (mode : Int), ra, bI_ neg, sL_ (q : Int), sc, bI_ tail, co, ex) x := by
    intro x hh hx g1 g2 g3
    subst hx
    refine xa_away mode hm neg q hq hh g1 ?_
    rw [xa_hh (q := q) mode neg tail hh h0 g2 g3]
    refine bI_br _ (fun z => ?_) (fun z => nm_r (sL_add (q : Int) 1) ?_)
    · rw [z, if_neg (by decide)] at h
      exact h
    · rw [z, if_pos rfl] at h
      exact h
  unfold wX_dropDigits_49 wpX_againstHalf
  refine nm_r (sL_mul (R : Int) 2) (sL_bLe (U : Int) ((R : Int) * 2) (fun z => sL_bLt (U : Int) ((R : Int) * 2) (fun z2 => key 1 1 rfl (by omega) ?_ ?_) (fun z2 => bI_br tail (fun e => key 0 0 rfl (by omega) ?_ ?_) (fun e => key 1 1 rfl (by omega) ?_ ?_))) (fun z => key (-1) (-1) rfl (by omega) ?_ ?_))
  · constructor <;> intro g <;> first | omega | exact Or.inl (by omega)
  · constructor <;> intro g <;> omega
  · subst e; constructor <;> intro g
    · omega
    · rcases g with g | g
      · omega
      · exact absurd g.2 (by decide)
  · subst e; constructor <;> intro g
    · exact ⟨by omega, rfl⟩
    · rfl
  · subst e; constructor <;> intro g
    · exact Or.inr ⟨by omega, rfl⟩
    · omega
  · subst e; constructor <;> intro g
    · omega
    · exact absurd g.2 (by decide)
  · constructor <;> intro g
    · omega
    · omega
  · constructor <;> intro g
    · omega
    · omega
theorem xa_drop {post : Int32 → SX → Prop} {li : Int64} {ra : Int32} {co ex : Nat → Int32} (mode : Nat) (hm : mode ≤ 6) (neg tail : Bool) (m : Nat) (s : Int) (n N : Nat) (hn : n < 1000000) (hN : (N = n ∧ n ≤ 18) ∨ (N = 18 ∧ 18 ≤ n)) (hmm : m < 9 * 10 ^ 18)
    (h : post (bI_ (decide (m % 10 ^ N ≠ 0) || tail)) (li, sI_ (mode : Int), ra, bI_ neg, sL_ (rq_ mode neg m N tail : Int), sI_ (s + n), bI_ tail, co, ex)) :
    wpX_dropDigits post (li, sI_ (mode : Int), ra, bI_ neg, sL_ (m : Int), sI_ s, bI_ tail, co, ex) (sI_ (n : Int)) := by
  have hp : 10 ^ N ≤ 10 ^ 18 := dd_le (by omega)
  have ht := tn_ N
  unfold rq_ at h
  unfold wpX_dropDigits
  refine xa_pow n N hn hN ?_
  generalize 10 ^ N = U at *
  have hd : sL_ (m : Int) / sL_ (U : Int) = sL_ ((m / U : Nat) : Int) := by
    rw [sL_div (by omega) (by omega), Int.natCast_tdiv_eq_ediv]
    congr 1
  have hr : sL_ (m : Int) - sL_ (m : Int) / sL_ (U : Int) * sL_ (U : Int) = sL_ ((m % U : Nat) : Int) := by
    rw [sL_rem (by omega) (by omega), Int.tmod_eq_emod_of_nonneg (by omega)]
    congr 1
  have hq : m / U ≤ m := Nat.div_le_self _ _
  have hR : m % U < U := Nat.mod_lt _ ht
  have hu : ¬ sL_ (U : Int) = 0 := sL_n0 (by omega) (by omega)
  have hn1 := Int.natCast_nonneg (m % U)
  refine ⟨hu, nm_r hr ⟨hu, nm_r hd (nm_r (sI_add s n) (sL_bEq ((m % U : Nat) : Int) 0 (fun z => bI_br tail (fun e => ?_) (fun e => ?_)) (fun z => ?_)))⟩⟩
  · have z0 : m % U = 0 := by omega
    subst e
    rw [z0] at h
    have e2 : ru_ mode neg (m / U) 0 U false = false := by
      unfold ru_; rw [if_pos ⟨rfl, rfl⟩]
    rw [e2, if_neg (by decide)] at h
    exact h
  · refine xa_49 mode hm neg tail (m / U) (m % U) U (by omega) hR hp (fun c => by rw [e] at c; exact absurd c.2 (by decide)) ?_
    rw [e, Bool.or_true] at h
    rw [e]
    exact h
  · have z0 : m % U ≠ 0 := by omega
    refine xa_49 mode hm neg tail (m / U) (m % U) U (by omega) hR hp (fun c => z0 c.1) ?_
    rw [decide_eq_true z0, Bool.true_or] at h
    exact h
