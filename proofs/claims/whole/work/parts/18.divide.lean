/-- apply: quotients -/
theorem aq_215 {post : Int32 → SY → Prop} {x1 x4 pr mo fl lo ne mr : Int32} {co ex di : Nat → Int32} {a b : Nat} (ha : a < 6) (hb : b < 6) {x y : Int} (cx : co a = sI_ x) (cy : co b = sI_ y) (hx : x.natAbs < 10 ^ 7) (hy : y.natAbs < 10 ^ 7) (more : Bool)
    (h : ∀ q' : Int32 → SY → Prop, (∀ r a1 a2 a3 a4 a5 a6 a7 a8 a9, post r (a1, a2, a3, a4, a5, a6, a7, a8, a9) → q' r (a1, a2, a3, a4, a5, a6, a7, a8, a9)) →
      wpY_finish q' (pr, mo, fl, lo, bI_ (decide (x < 0) != decide (y < 0)), bI_ more, co, ex, di) x1 x4) :
    wY_divide_215 post x1 (sI_ (a : Int)) (sI_ (b : Int)) x4 (bI_ more) pr mo fl lo ne mr co ex di := by
  have k : ∀ c : Bool, c = (decide (x < 0) != decide (y < 0)) → wY_divide_255 post x1 x4 (bI_ c) pr mo fl lo ne (bI_ more) co ex di := by
    intro c hc
    subst hc
    exact ⟨bI_n _, bI_fit _, h _ (fun _ _ _ _ _ _ _ _ _ _ z => z)⟩
  refine ⟨bI_n more, bI_fit more, sI_in ha (by omega), ?_⟩
  unfold wY_divide_233
  rw [sI_cl (show a < 2147483648 from by omega), sI_cl (show b < 2147483648 from by omega), cx, cy]
  have vib := sI_in hb (show 6 < 2147483648 from by omega)
  refine sI_bLe 0 x (fun z => ⟨vib, sI_bLe 0 y (fun z2 => br_t rfl (k false ?_)) (fun z2 => br_f (by decide) (k true ?_))⟩) (fun z => ⟨vib, sI_bLe 0 y (fun z2 => br_f (by decide) (k true ?_)) (fun z2 => br_t rfl (k false ?_))⟩)
  · rw [decide_eq_false (by omega), decide_eq_false (by omega)]; rfl
  · rw [decide_eq_false (by omega), decide_eq_true (by omega)]; rfl
  · rw [decide_eq_true (by omega), decide_eq_false (by omega)]; rfl
  · rw [decide_eq_true (by omega), decide_eq_true (by omega)]; rfl
theorem aq_86 {post : Int32 → SY → Prop} {pr mo fl lo ne mr : Int32} {co ex di : Nat → Int32} {d a b : Nat} (ha : a < 6) (hb : b < 6) {x y w : Int} (cx : co a = sI_ x) (cy : co b = sI_ y) (hx : x.natAbs < 10 ^ 7) (hy : y.natAbs < 10 ^ 7) (hy0 : y ≠ 0)
    (h : ∀ (q' : Int32 → SY → Prop) (di : Nat → Int32), (∀ r a1 a2 a3 a4 a5 a6 a7 a8 a9, post r (a1, a2, a3, a4, a5, a6, a7, a8, a9) → q' r (a1, a2, a3, a4, a5, a6, a7, a8, a9)) →
      dv_ di 128 = ((x.natAbs * 10 ^ 40 / y.natAbs : Nat) : Int) → (∀ i, i < 128 → -50 ≤ (di i).toInt ∧ (di i).toInt ≤ 50) →
      wpY_finish q' (pr, mo, fl, sI_ (w - 40), bI_ (decide (x < 0) != decide (y < 0)), bI_ (decide (x.natAbs * 10 ^ 40 % y.natAbs ≠ 0)), co, ex, di) (sI_ (d : Int)) (sI_ w)) :
    wY_divide_86 post (sI_ (d : Int)) (sI_ (a : Int)) (sI_ (b : Int)) (sI_ w) (sL_ (x.natAbs : Int)) (sL_ (y.natAbs : Int)) pr mo fl lo ne mr co ex di := by
  have hn : ¬ sL_ (y.natAbs : Int) = 0 := sL_n0 (by omega) (by omega)
  have e1 : sL_ (x.natAbs : Int) - sL_ (x.natAbs : Int) / sL_ (y.natAbs : Int) * sL_ (y.natAbs : Int) = sL_ ((x.natAbs * 10 ^ 0 % y.natAbs : Nat) : Int) := by
    rw [sL_rem (by omega) (by omega), Int.tmod_eq_emod_of_nonneg (by omega), Nat.pow_zero, Nat.mul_one]
    congr 1
  have e2 : sL_ (x.natAbs : Int) / sL_ (y.natAbs : Int) = sL_ ((x.natAbs / y.natAbs : Nat) : Int) := by
    rw [sL_div (by omega) (by omega), Int.natCast_tdiv_eq_ediv]
    congr 1
  have hq : x.natAbs / y.natAbs ≤ x.natAbs := Nat.div_le_self _ _
  unfold wY_divide_86 wY_divide_113 wY_divide_132
  rw [e1, e2, show (40 : Int32) = sI_ 40 from rfl, sI_sub]
  refine ya_begin (fun d1 h1 => ?_)
  refine sL_bLe (y.natAbs : Int) 0 (fun hh => by omega) (fun _ => ⟨hn, sL_bLe (y.natAbs : Int) 0 (fun hh => by omega) (fun _ => ⟨hn, ?_⟩)⟩)
  refine bf_p1 ((x.natAbs / y.natAbs : Nat) : Int) w (w - 40) h1 (by rw [Int.natAbs_natCast]; omega) (by omega) (fun d2 h2 h3 h4 => ?_)
  rw [show w - (w - 40) = 40 from by omega] at h2 h4
  have k := yq_141 post (sI_ (d : Int)) (sI_ (a : Int)) (sI_ (b : Int)) (sI_ w) pr mo fl (sI_ (w - 40)) 0 0 co ex x.natAbs y.natAbs (by omega) (fun di g1 g2 => aq_215 ha hb cx cy hx hy _ (fun q' hq' => h q' di hq' g1 g2)) 40 0 d2 (by omega) h4 (by
    rw [h2, Nat.pow_zero, Nat.mul_one, Int.natCast_mul, tc_]
    rfl) (fun i hi => by have := h3 i hi; omega)
  rw [show sI_ (((40 : Nat) : Int) - 1) = 39 from rfl] at k
  exact ⟨_, k⟩
theorem aq_Y {pr mo fl lo ne mr : Int32} {co ex di : Nat → Int32} {d a b : Nat} (hd : d < 6) (ha : a < 6) (hb : b < 6) {x y p q : Int} (cx : co a = sI_ x) (cy : co b = sI_ y) (ep : ex a = sI_ p) (eq : ex b = sI_ q) (hx : x.natAbs < 10 ^ 7) (hy : y.natAbs < 10 ^ 7) (hy0 : y ≠ 0)
    (Q : Int32 → SY → Prop) (h : ∀ (q' : Int32 → SY → Prop) (di : Nat → Int32), (∀ r a1 a2 a3 a4 a5 a6 a7 a8 a9, Q r (a1, a2, a3, a4, a5, a6, a7, a8, a9) → q' r (a1, a2, a3, a4, a5, a6, a7, a8, a9)) →
      dv_ di 128 = ((x.natAbs * 10 ^ 40 / y.natAbs : Nat) : Int) → (∀ i, i < 128 → -50 ≤ (di i).toInt ∧ (di i).toInt ≤ 50) →
      wpY_finish q' (pr, mo, fl, sI_ (p - q - 40), bI_ (decide (x < 0) != decide (y < 0)), bI_ (decide (x.natAbs * 10 ^ 40 % y.natAbs ≠ 0)), co, ex, di) (sI_ (d : Int)) (sI_ (p - q))) :
    wpY_apply Q (pr, mo, fl, lo, ne, mr, co, ex, di) 3 (sI_ (d : Int)) (sI_ (a : Int)) (sI_ (b : Int)) := by
  have via := sI_in ha (show 6 < 2147483648 from by omega)
  have vib := sI_in hb (show 6 < 2147483648 from by omega)
  unfold wpY_apply
  dsimp only
  refine br_f (by decide) (br_f (by decide) (rY_1 hd (br_f n1_0 (rY_1 ha (br_f n1_0 (rY_1 hb (br_f n1_0 (br_t rfl ?_))))))))
  unfold wpY_divide wY_divide_57
  dsimp only
  rw [sI_cl (show a < 2147483648 from by omega), sI_cl (show b < 2147483648 from by omega), ep, eq, cx, cy, sI_l (a := x) (by omega) (by omega), sI_l (a := y) (by omega) (by omega), sL_neg, sL_neg]
  refine ⟨via, vib, nm_r (sI_sub p q) ⟨vib, sI_bEq y 0 (fun hh => absurd hh hy0) (fun _ => ⟨via, ?_⟩)⟩⟩
  have k := aq_86 (post := fun r u => match u with | (f_precision_128, f_mode_129, f_flags_130, f_low_131, f_negative_132, f_more_133, a_coefs_134, a_exps_135, a_digit_136) => (Q r (f_precision_128, f_mode_129, f_flags_130, f_low_131, f_negative_132, f_more_133, a_coefs_134, a_exps_135, a_digit_136))) (lo := lo) (ne := ne) (mr := mr) (di := di) (ex := ex) (d := d) (w := p - q) ha hb cx cy hx hy hy0 (fun q' di hq' => h q' di (fun r a1 a2 a3 a4 a5 a6 a7 a8 a9 z => hq' r a1 a2 a3 a4 a5 a6 a7 a8 a9 z))
  refine sI_bLe 0 x (fun c1 => ⟨via, vib, ?_⟩) (fun c1 => ⟨via, vib, ?_⟩)
  · rw [show (x.natAbs : Int) = x from by omega] at k
    refine sI_bLe 0 y (fun c2 => ⟨vib, ?_⟩) (fun c2 => ⟨vib, ?_⟩)
    · rw [show (y.natAbs : Int) = y from by omega] at k
      exact k
    · rw [show (y.natAbs : Int) = -y from by omega] at k
      exact k
  · rw [show (x.natAbs : Int) = -x from by omega] at k
    refine sI_bLe 0 y (fun c2 => ⟨vib, ?_⟩) (fun c2 => ⟨vib, ?_⟩)
    · rw [show (y.natAbs : Int) = y from by omega] at k
      exact k
    · rw [show (y.natAbs : Int) = -y from by omega] at k
      exact k
/-- the reference's forty digits against the digits that the unit took -/
theorem aq_m {A B i : Nat} (hB : 0 < B) (hi : i ≤ 40) : A * 10 ^ 40 / B / 10 ^ (40 - i) = A * 10 ^ i / B ∧ (A * 10 ^ i % B ≠ 0 ↔ (A * 10 ^ 40 % B ≠ 0 ∨ A * 10 ^ 40 / B % 10 ^ (40 - i) ≠ 0)) := by
  have e : A * 10 ^ 40 = A * 10 ^ i * 10 ^ (40 - i) := by
    rw [Nat.mul_assoc, ← Nat.pow_add, show i + (40 - i) = 40 from by omega]
  have hu := tn_ (40 - i)
  rw [e]
  generalize 10 ^ (40 - i) = u at *
  generalize A * 10 ^ i = X at *
  refine ⟨?_, ?_⟩
  · rw [Nat.div_div_eq_div_mul, Nat.mul_div_mul_right _ _ hu]
  · have z : X % B = 0 ↔ (X * u % B = 0 ∧ X * u / B % u = 0) := by
      constructor
      · intro h
        obtain ⟨g, hg⟩ := Nat.dvd_of_mod_eq_zero h
        rw [hg, Nat.mul_assoc, Nat.mul_mod_right, Nat.mul_div_cancel_left _ hB, Nat.mul_mod_left]
        exact ⟨rfl, rfl⟩
      · intro h
        obtain ⟨g, hg⟩ := Nat.dvd_of_mod_eq_zero h.1
        rw [hg, Nat.mul_div_cancel_left _ hB] at h
        obtain ⟨t, ht⟩ := Nat.dvd_of_mod_eq_zero h.2
        rw [ht] at hg
        have : X = B * t := by
          apply Nat.eq_of_mul_eq_mul_right hu
          rw [hg]; grind
        rw [this, Nat.mul_mod_right]
    omega
theorem aq_big {A B T : Nat} (hA : 1 ≤ A) (hT : T ≤ 10000000) (hB : B < 10 ^ 7) : T * B ≤ A * 10 ^ 40 :=
  Nat.le_trans (Nat.mul_le_mul hT (Nat.le_of_lt hB)) (Nat.le_trans (by decide : 10000000 * 10 ^ 7 ≤ 1 * 10 ^ 40) (Nat.mul_le_mul_right _ hA))
