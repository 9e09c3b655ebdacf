/-- Y: begin, put, tidy -/
theorem ya_begin1 (post : SY → Prop) (w pr mo fl lo ne mr : Int32) (co ex : Nat → Int32)
    (h : ∀ di' : Nat → Int32, (∀ i, i < 128 → di' i = 0) → post (pr, mo, fl, w, 0, 0, co, ex, di')) :
    ∀ (d j : Nat) (di : Nat → Int32), j + d = 128 → (∀ i, i < j → di i = 0) → wY_begin_2 post w pr mo fl lo ne mr (d + 1) (sI_ (j : Int)) co ex di := by
  intro d
  induction d with
  | zero =>
    intro j di hj hd
    exact sI_bLe 128 j (fun _ => h di (fun i hi => hd i (by omega))) (fun hh => by omega)
  | succ d ih =>
    intro j di hj hd
    refine sI_bLe 128 j (fun hh => by omega) (fun hh => ⟨sI_in (by omega) (by omega), nm_e (nm_r (sI_add j 1) ?_)⟩)
    rw [sI_cl (by omega)]
    refine ih (j + 1) _ (by omega) (fun i hi => ?_)
    by_cases c : i = j
    · subst c; exact dv_us _ _ _
    · rw [dv_un _ _ c]; exact hd i (by omega)
theorem ya_begin {post : SY → Prop} {w pr mo fl lo ne mr : Int32} {co ex di : Nat → Int32}
    (h : ∀ di' : Nat → Int32, (∀ i, i < 128 → di' i = 0) → post (pr, mo, fl, w, 0, 0, co, ex, di')) :
    wpY_begin post (pr, mo, fl, lo, ne, mr, co, ex, di) w :=
  ⟨129, ya_begin1 post w pr mo fl lo ne mr co ex h 128 0 di rfl (fun i hi => by omega)⟩
theorem ya_td10 (v : Int) : v = v.tdiv 10 * 10 + v.tmod 10 := (Int.tdiv_mul_add_tmod v 10).symm
theorem ya_tm10 (v : Int) : -9 ≤ v.tmod 10 ∧ v.tmod 10 ≤ 9 := by
  have h : (v.tmod 10).natAbs < 10 := by
    rw [Int.natAbs_tmod]; exact Nat.mod_lt _ (by decide)
  omega
theorem ya_put1 (post : SY → Prop) (pr mo fl lo ne mr : Int32) (co ex : Nat → Int32) (B : Int) (hB : B ≤ 1000) :
    ∀ (d : Nat) (v : Int) (j : Nat) (di : Nat → Int32), v.natAbs < 10 ^ d → d ≤ 18 → j + d ≤ 128 →
    (∀ i, i < j → i < 128 → -B - 9 ≤ (di i).toInt ∧ (di i).toInt ≤ B + 9) → (∀ i, j ≤ i → i < 128 → -B ≤ (di i).toInt ∧ (di i).toInt ≤ B) → 
    (∀ di' : Nat → Int32, (∀ i, i < 128 → -B - 9 ≤ (di' i).toInt ∧ (di' i).toInt ≤ B + 9) → dv_ di' 128 = dv_ di 128 + v * 10 ^ j → (∀ i, i < j → di' i = di i) → post (pr, mo, fl, lo, ne, mr, co, ex, di')) →
    wY_put_11 post pr mo fl lo ne mr (d + 1) (sL_ v) (sI_ (j : Int)) co ex di := by
  intro d
  induction d with
  | zero =>
    intro v j di hv _ hj hl hh h
    have v0 : v = 0 := by omega
    subst v0
    have k : post (pr, mo, fl, lo, ne, mr, co, ex, di) := h di (fun i hi => by
      by_cases c : i < j
      · exact hl i c hi
      · have := hh i (by omega) hi; omega) (by omega) (fun _ _ => rfl)
    exact sI_bLt j 0 (fun _ => k) (fun _ => sI_bLe 128 j (fun _ => k) (fun _ => sL_bEq 0 0 (fun _ => k) (fun e => absurd rfl e)))
  | succ d ih =>
    intro v j di hv hd hj hl hh h
    have hp : 10 ^ (d + 1) ≤ 10 ^ 18 := dd_le (by omega)
    have hj0 := hh j (Nat.le_refl j) (by omega)
    have hm := ya_tm10 v
    have hq := ya_td10 v
    refine sI_bLt j 0 (fun _ => by omega) (fun _ => sI_bLe 128 j (fun _ => by omega) (fun _ => sL_bEq v 0 (fun e => ?_) (fun e => ?_)))
    · subst e
      exact h di (fun i hi => by
        by_cases c : i < j
        · exact hl i c hi
        · have := hh i (by omega) hi; omega) (by omega) (fun _ _ => rfl)
    · refine ⟨sI_in (by omega) (by omega), sL_10, sI_in (by omega) (by omega), nm_e ⟨sL_10, nm_r (sL_div10 (a := v) (by omega)) (nm_r (sI_add j 1) ?_)⟩⟩
      rw [sL_rem10 (by omega), sL_i, sI_cl (by omega)]
      have hx : ((di j) + sI_ (v.tmod 10)).toInt = (di j).toInt + v.tmod 10 := by
        conv => lhs; rw [← sI_self (di j), sI_add]
        exact sI_t (by omega) (by omega)
      refine ih (v.tdiv 10) (j + 1) _ ?_ (by omega) (by omega) ?_ ?_ ?_
      · rw [Int.natAbs_tdiv]
        rw [Nat.pow_succ] at hv
        exact Nat.div_lt_of_lt_mul (by rw [Nat.mul_comm]; exact hv)
      · intro i hi hi2
        by_cases c : i = j
        · subst c; rw [dv_us, hx]; omega
        · rw [dv_un _ _ c]; exact hl i (by omega) hi2
      · intro i hi hi2
        rw [dv_un _ _ (by omega)]; exact hh i (by omega) hi2
      · intro di' h1 h2 h3
        refine h di' h1 ?_ (fun i hi => ?_)
        · rw [h2, dv_ult _ _ (by omega), hx]
          have : v * 10 ^ j = (v.tdiv 10 * 10 + v.tmod 10) * 10 ^ j := by rw [← hq]
          grind
        · rw [h3 i (by omega), dv_un _ _ (by omega)]
theorem ya_put {post : SY → Prop} {pr mo fl lo ne mr x : Int32} {co ex di : Nat → Int32} {z : Int64} (B : Int) (d : Nat) (v : Int) (j : Nat)
    (h : ∀ di' : Nat → Int32, (∀ i, i < 128 → -B - 9 ≤ (di' i).toInt ∧ (di' i).toInt ≤ B + 9) → dv_ di' 128 = dv_ di 128 + v * 10 ^ j → (∀ i, i < j → di' i = di i) → post (pr, mo, fl, lo, ne, mr, co, ex, di'))
    (hz : z = sL_ v) (hx : x - lo = sI_ (j : Int)) (hv : v.natAbs < 10 ^ d) (hd : d ≤ 18) (hj : j + d ≤ 128)
    (hB : 0 ≤ B ∧ B ≤ 1000) (hh : ∀ i, i < 128 → -B ≤ (di i).toInt ∧ (di i).toInt ≤ B) :
    wpY_put post (pr, mo, fl, lo, ne, mr, co, ex, di) z x := by
  subst hz
  refine nm_r hx ⟨d + 1, ya_put1 post pr mo fl lo ne mr co ex B hB.2 d v j di hv hd hj (fun i _ hi => ?_) (fun i _ hi => hh i hi) h⟩
  have := hh i hi; omega
