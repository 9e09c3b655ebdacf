/-- Y: tidy -/
theorem yt_flo {v : Int} (h : -1000 ≤ v ∧ v ≤ 1000) (h0 : v < 0) : ((9 - v).tdiv 10) = (9 - v) / 10 := Int.tdiv_eq_ediv_of_nonneg (by omega)
theorem yt_2 (post : SY → Prop) (pr mo fl lo ne mr : Int32) (co ex e : Nat → Int32) (he : ∀ i, i < 128 → 0 ≤ (e i).toInt ∧ (e i).toInt ≤ 9)
    (h : ∀ (c : Int) (di' : Nat → Int32), 0 ≤ c → c ≤ 1 → (∀ i, i < 128 → 0 ≤ (di' i).toInt ∧ (di' i).toInt ≤ 9) → dv_ di' 128 + c * 10 ^ 128 = 10 ^ 128 - dv_ e 128 → post (pr, mo, fl, lo, ne, mr, co, ex, di')) :
    ∀ (d j : Nat) (c : Int) (di : Nat → Int32), j + d = 128 → 0 ≤ c → c ≤ 1 → (∀ i, i < j → 0 ≤ (di i).toInt ∧ (di i).toInt ≤ 9) → (∀ i, j ≤ i → i < 128 → di i = e i) →
    dv_ di j + c * 10 ^ j = 10 ^ j - dv_ e j →
    wY_tidy_72 post pr mo fl lo ne mr (d + 1) (sI_ c) (sI_ (j : Int)) co ex di := by
  intro d
  induction d with
  | zero =>
    intro j c di hj c0 c1 h1 h2 h3
    have : j = 128 := by omega
    subst this
    exact sI_bLe 128 ((128 : Nat) : Int) (fun _ => h c di c0 c1 h1 h3) (fun hh => by omega)
  | succ d ih =>
    intro j c di hj c0 c1 h1 h2 h3
    have hj' : j < 128 := by omega
    obtain ⟨a, b⟩ := he j hj'
    have hv : 9 - sI_ ((e j).toInt) + sI_ c = sI_ (9 - (e j).toInt + c) := by
      rw [show (9 : Int32) = sI_ 9 from rfl, sI_sub, sI_add]
    generalize hV : 9 - (e j).toInt + c = V at hv
    have hV0 : 0 ≤ V ∧ V ≤ 10 := by omega
    refine sI_bLe 128 j (fun hh => by omega) (fun _ => ⟨sI_in hj' (by omega), ?_⟩)
    rw [sI_cl (by omega), h2 j (Nat.le_refl j) hj', ← sI_self (e j)]
    refine nm_r hv ⟨sI_10, nm_r (sI_div10 (a := V) (by omega)) ⟨sI_10, sI_in hj' (by omega), nm_e (nm_r (sI_add j 1) ?_)⟩⟩
    rw [sI_rem10 (by omega), Int.tdiv_eq_ediv_of_nonneg hV0.1, Int.tmod_eq_emod_of_nonneg hV0.1]
    have hx : (sI_ (V % 10)).toInt = V % 10 := sI_t (by omega) (by omega)
    refine ih (j + 1) (V / 10) _ (by omega) (by omega) (by omega) ?_ ?_ ?_
    · intro i hi
      by_cases q : i = j
      · subst q; rw [dv_us, hx]; omega
      · rw [dv_un _ _ q]; exact h1 i (by omega)
    · intro i hi hi2
      rw [dv_un _ _ (by omega)]; exact h2 i (by omega) hi2
    · rw [dv_s, dv_s, dv_us, dv_uge _ _ (Nat.le_refl j), hx, Int.pow_succ]
      have hd : V % 10 = V - 10 * (V / 10) := by omega
      rw [hd]
      subst hV
      grind
theorem yt_1 (post : SY → Prop) (pr mo fl lo ne mr : Int32) (co ex : Nat → Int32) (V : Int)
    (h : ∀ (c : Int) (di' : Nat → Int32), -20 ≤ c → c ≤ 20 → 0 ≤ c → (∀ i, i < 128 → 0 ≤ (di' i).toInt ∧ (di' i).toInt ≤ 9) → dv_ di' 128 + c * 10 ^ 128 = V → post (pr, mo, fl, lo, ne, mr, co, ex, di'))
    (g : ∀ (c : Int) (di' : Nat → Int32), c < 0 → (∀ i, i < 128 → 0 ≤ (di' i).toInt ∧ (di' i).toInt ≤ 9) → dv_ di' 128 + c * 10 ^ 128 = V → ∃ n72 : Nat, wY_tidy_72 post pr mo fl lo 1 mr n72 1 0 co ex di') :
    ∀ (d j : Nat) (c : Int) (di : Nat → Int32), j + d = 128 → -20 ≤ c → c ≤ 20 → (∀ i, i < j → 0 ≤ (di i).toInt ∧ (di i).toInt ≤ 9) → (∀ i, j ≤ i → i < 128 → -50 ≤ (di i).toInt ∧ (di i).toInt ≤ 50) →
    dv_ di 128 + c * 10 ^ j = V →
    wY_tidy_4 post pr mo fl lo ne mr (d + 1) (sI_ c) (sI_ (j : Int)) co ex di := by
  intro d
  induction d with
  | zero =>
    intro j c di hj c0 c1 h1 h2 h3
    have : j = 128 := by omega
    subst this
    exact sI_bLe 128 ((128 : Nat) : Int) (fun _ => sI_bLt c 0 (fun hc => g c di hc h1 h3) (fun hc => h c di c0 c1 hc h1 h3)) (fun hh => by omega)
  | succ d ih =>
    intro j c di hj c0 c1 h1 h2 h3
    have hj' : j < 128 := by omega
    obtain ⟨a, b⟩ := h2 j (Nat.le_refl j) hj'
    have hv : sI_ ((di j).toInt) + sI_ c = sI_ ((di j).toInt + c) := sI_add _ _
    generalize hW : (di j).toInt + c = W at hv
    have hW0 : -70 ≤ W ∧ W ≤ 70 := by omega
    have key : ∀ q : Int, q = W / 10 → wY_tidy_39 post (wY_tidy_4 post pr mo fl lo ne mr (d + 1)) (sI_ (j : Int)) (sI_ W) (sI_ q) pr mo fl lo ne mr co ex di := by
      intro q hq
      refine ⟨sI_in hj' (by omega), nm_e (nm_r (sI_add j 1) ?_)⟩
      rw [sI_cl (by omega), show (10 : Int32) = sI_ 10 from rfl, sI_mul, sI_sub]
      have hx : (sI_ (W - 10 * q)).toInt = W - 10 * q := sI_t (by omega) (by omega)
      refine ih (j + 1) q _ (by omega) (by omega) (by omega) ?_ ?_ ?_
      · intro i hi
        by_cases c : i = j
        · subst c; rw [dv_us, hx]; omega
        · rw [dv_un _ _ c]; exact h1 i (by omega)
      · intro i hi hi2
        rw [dv_un _ _ (by omega)]; exact h2 i (by omega) hi2
      · rw [dv_ult _ _ hj', hx, Int.pow_succ, ← h3]
        subst hW
        grind
    refine sI_bLe 128 j (fun hh => by omega) (fun _ => ⟨sI_in hj' (by omega), ?_⟩)
    rw [sI_cl (by omega)]
    rw [show di j + sI_ c = sI_ W from by rw [← hv, sI_self]]
    refine nm_e (sI_bLe 0 W (fun hw => ⟨sI_10, ?_⟩) (fun hw => ⟨sI_10, ?_⟩))
    · rw [sI_div10 (by omega), Int.tdiv_eq_ediv_of_nonneg hw]
      exact key _ rfl
    · rw [show (9 : Int32) = sI_ 9 from rfl, sI_sub, sI_div10 (by omega), yt_flo (by omega) hw, sI_neg]
      exact key _ (by omega)
theorem yt_tidy {post : SY → Prop} {pr mo fl lo mr : Int32} {co ex di : Nat → Int32} (ne : Bool) (V : Int)
    (hV : dv_ di 128 = V) (hb : V.natAbs < 10 ^ 128) (hd : ∀ i, i < 128 → -50 ≤ (di i).toInt ∧ (di i).toInt ≤ 50)
    (h : ∀ di' : Nat → Int32, dg_ di' V.natAbs → post (pr, mo, fl, lo, bI_ (ne || decide (V < 0)), mr, co, ex, di')) :
    wpY_tidy post (pr, mo, fl, lo, bI_ ne, mr, co, ex, di) := by
  have hb1 : -10 ^ 128 < V ∧ V < (10 : Int) ^ 128 := by
    rw [← tc_]; generalize 10 ^ 128 = T at *; omega
  refine ⟨129, yt_1 post pr mo fl lo (bI_ ne) mr co ex V ?_ ?_ 128 0 0 di rfl (by omega) (by omega) (fun i hi => by omega) (fun i _ hi => hd i hi) ?_⟩
  · intro c di' _ _ c0 h1 h2
    have ⟨p, q⟩ := dv_rng h1
    have c1 : c = 0 := by
      by_cases z : 1 ≤ c
      · have := Int.mul_le_mul_of_nonneg_right z (Int.le_of_lt (tp_ 128))
        generalize (10 : Int) ^ 128 = T at *
        generalize c * T = cT at *
        omega
      · omega
    subst c1
    have v0 : 0 ≤ V := by omega
    have := h di' (dg_of h1 (by omega))
    rw [show decide (V < 0) = false from decide_eq_false (by omega), Bool.or_false] at this
    exact this
  · intro c di' c0 h1 h2
    have ⟨p, q⟩ := dv_rng h1
    have c1 : c = -1 := by
      by_cases z : c ≤ -2
      · have := Int.mul_le_mul_of_nonneg_right z (Int.le_of_lt (tp_ 128))
        generalize (10 : Int) ^ 128 = T at *
        generalize c * T = cT at *
        omega
      · omega
    subst c1
    have v0 : V < 0 := by
      generalize (10 : Int) ^ 128 = T at *
      omega
    refine ⟨129, yt_2 post pr mo fl lo 1 mr co ex di' h1 ?_ 128 0 1 di' rfl (by omega) (by omega) (fun i hi => by omega) (fun _ _ _ => rfl) (by rfl)⟩
    intro c e' c0 c1 h3 h4
    have ⟨p', q'⟩ := dv_rng h3
    have c2 : c = 0 := by
      by_cases z : 1 ≤ c
      · have := Int.mul_le_mul_of_nonneg_right z (Int.le_of_lt (tp_ 128))
        generalize (10 : Int) ^ 128 = T at *
        generalize c * T = cT at *
        omega
      · omega
    subst c2
    have := h e' (dg_of h3 (by generalize (10 : Int) ^ 128 = T at *; omega))
    rw [show decide (V < 0) = true from decide_eq_true v0, Bool.or_true] at this
    exact this
  · rw [hV]; omega
