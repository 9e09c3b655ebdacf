/-- apply -/
theorem ap_mulB {x y : Int} (hx : x.natAbs < 10 ^ 7) (hy : y.natAbs < 10 ^ 7) : (x * y).natAbs < 10 ^ 15 := by
  rw [Int.natAbs_mul]
  have := Nat.mul_le_mul (Nat.le_of_lt hx) (Nat.le_of_lt hy)
  omega
theorem ap_Ymul {pr mo fl lo ne mr : Int32} {co ex di : Nat → Int32} {d a b : Nat} (hd : d < 6) (ha : a < 6) (hb : b < 6) {x y p q : Int} (cx : co a = sI_ x) (cy : co b = sI_ y) (ep : ex a = sI_ p) (eq : ex b = sI_ q) (hx : x.natAbs < 10 ^ 7) (hy : y.natAbs < 10 ^ 7)
    (Q : Int32 → SY → Prop) (h : ∀ (q' : Int32 → SY → Prop) (di : Nat → Int32), (∀ r a1 a2 a3 a4 a5 a6 a7 a8 a9, Q r (a1, a2, a3, a4, a5, a6, a7, a8, a9) → q' r (a1, a2, a3, a4, a5, a6, a7, a8, a9)) →
      dv_ di 128 = x * y → (∀ i, i < 128 → -50 ≤ (di i).toInt ∧ (di i).toInt ≤ 50) → wpY_finish q' (pr, mo, fl, sI_ (p + q), bI_ false, bI_ false, co, ex, di) (sI_ (d : Int)) (sI_ (p + q))) :
    wpY_apply Q (pr, mo, fl, lo, ne, mr, co, ex, di) 2 (sI_ (d : Int)) (sI_ (a : Int)) (sI_ (b : Int)) := by
  have via := sI_in ha (show 6 < 2147483648 from by omega)
  have vib := sI_in hb (show 6 < 2147483648 from by omega)
  unfold wpY_apply
  dsimp only
  refine br_f (by decide) (br_f (by decide) (rY_1 hd (br_f n1_0 (rY_1 ha (br_f n1_0 (rY_1 hb (br_f n1_0 (br_f (by decide) (br_t rfl ⟨via, vib, ?_⟩)))))))))
  rw [sI_cl (show a < 2147483648 from by omega), sI_cl (show b < 2147483648 from by omega), ep, eq, sI_add]
  refine ya_begin (fun d1 h1 => ⟨via, vib, via, vib, ?_⟩)
  dsimp only
  rw [cx, cy, ep, eq, sI_add, sI_l (by omega) (by omega), sI_l (by omega) (by omega), sL_mul]
  refine bf_p1 (x * y) (p + q) (p + q) h1 (ap_mulB hx hy) (by omega) (fun d2 h2 h3 _ => ⟨via, vib, ?_⟩)
  dsimp only
  rw [ep, eq, sI_add]
  refine h _ d2 (fun _ _ _ _ _ _ _ _ _ _ z => z) ?_ (fun i hi => ?_)
  · rw [h2, Int.sub_self, Int.toNat_zero, Int.pow_zero, Int.mul_one]
  · have := h3 i hi; omega
theorem ap_159 {pr mo fl lo0 ne mr : Int32} {co ex di : Nat → Int32} {d a b o : Nat} (ho : o < 2) (ha : a < 6) (hb : b < 6) {x y z p q lo : Int} (cx : co a = sI_ x) (cy : co b = sI_ y) (ep : ex a = sI_ p) (eq : ex b = sI_ q) (hx : x.natAbs < 10 ^ 7) (hy : y.natAbs < 10 ^ 7)
    (hz : z = if o = 0 then y else -y) (hp : 0 ≤ p - lo ∧ p - lo ≤ 100) (hq : 0 ≤ q - lo ∧ q - lo ≤ 100)
    (Q : Int32 → SY → Prop) (h : ∀ (q' : Int32 → SY → Prop) (di : Nat → Int32), (∀ r a1 a2 a3 a4 a5 a6 a7 a8 a9, Q r (a1, a2, a3, a4, a5, a6, a7, a8, a9) → q' r (a1, a2, a3, a4, a5, a6, a7, a8, a9)) →
      dv_ di 128 = x * 10 ^ (p - lo).toNat + z * 10 ^ (q - lo).toNat → (∀ i, i < 128 → -50 ≤ (di i).toInt ∧ (di i).toInt ≤ 50) → wpY_finish q' (pr, mo, fl, sI_ lo, bI_ false, bI_ false, co, ex, di) (sI_ (d : Int)) (sI_ lo)) :
    wY_apply_159 Q (sI_ (o : Int)) (sI_ (d : Int)) (sI_ (a : Int)) (sI_ (b : Int)) (sI_ lo) pr mo fl lo0 ne mr co ex di := by
  have via := sI_in ha (show 6 < 2147483648 from by omega)
  have vib := sI_in hb (show 6 < 2147483648 from by omega)
  unfold wY_apply_159 wY_apply_209
  rw [sI_cl (show a < 2147483648 from by omega), sI_cl (show b < 2147483648 from by omega)]
  refine ya_begin (fun d1 h1 => ⟨via, via, ?_⟩)
  dsimp only
  rw [cx, ep, sI_l (by omega) (by omega)]
  refine bf_p1 x p lo h1 (by omega) hp (fun d2 h2 h3 _ => ?_)
  dsimp only
  rw [cy, eq]
  have k : ∀ zz : Int64, zz = sL_ z → wpY_put (fun u => match u with | (f_precision_68, f_mode_69, f_flags_70, f_low_71, f_negative_72, f_more_73, a_coefs_74, a_exps_75, a_digit_76) => (wpY_finish (fun r_77 u => match u with | (f_precision_78, f_mode_79, f_flags_80, f_low_81, f_negative_82, f_more_83, a_coefs_84, a_exps_85, a_digit_86) => (Q r_77 (f_precision_78, f_mode_79, f_flags_80, f_low_81, f_negative_82, f_more_83, a_coefs_84, a_exps_85, a_digit_86))) (f_precision_68, f_mode_69, f_flags_70, f_low_71, f_negative_72, f_more_73, a_coefs_74, a_exps_75, a_digit_76) (sI_ (d : Int)) (sI_ lo))) (pr, mo, fl, sI_ lo, 0, 0, co, ex, d2) zz (sI_ q) := by
    intro zz hzz
    subst hzz
    refine bf_p2 _ z q lo h2 h3 ?_ hq (fun d3 h4 h5 => ?_)
    · rw [hz]
      by_cases c : o = 0
      · rw [if_pos c]; omega
      · rw [if_neg c]; omega
    · exact h _ d3 (fun _ _ _ _ _ _ _ _ _ _ z => z) h4 h5
  refine sI_bEq (o : Int) 0 (fun c => ⟨vib, vib, k _ ?_⟩) (fun c => ⟨vib, vib, k _ ?_⟩)
  · rw [hz, if_pos (by omega), sI_l (by omega) (by omega)]
  · rw [hz, if_neg (by omega), sI_neg, sI_l (by omega) (by omega)]
theorem ap_Ysum {pr mo fl lo0 ne mr : Int32} {co ex di : Nat → Int32} {d a b o : Nat} (ho : o < 2) (hd : d < 6) (ha : a < 6) (hb : b < 6) {x y z p q lo : Int} (cx : co a = sI_ x) (cy : co b = sI_ y) (ep : ex a = sI_ p) (eq : ex b = sI_ q) (hx : x.natAbs < 10 ^ 7) (hy : y.natAbs < 10 ^ 7)
    (hz : z = if o = 0 then y else -y) (hp : -20 ≤ p ∧ p ≤ 20) (hq : -20 ≤ q ∧ q ≤ 20) (hlo : (p < q ∧ lo = p) ∨ (q ≤ p ∧ lo = q))
    (Q : Int32 → SY → Prop) (h : ∀ (q' : Int32 → SY → Prop) (di : Nat → Int32), (∀ r a1 a2 a3 a4 a5 a6 a7 a8 a9, Q r (a1, a2, a3, a4, a5, a6, a7, a8, a9) → q' r (a1, a2, a3, a4, a5, a6, a7, a8, a9)) →
      dv_ di 128 = x * 10 ^ (p - lo).toNat + z * 10 ^ (q - lo).toNat → (∀ i, i < 128 → -50 ≤ (di i).toInt ∧ (di i).toInt ≤ 50) → wpY_finish q' (pr, mo, fl, sI_ lo, bI_ false, bI_ false, co, ex, di) (sI_ (d : Int)) (sI_ lo)) :
    wpY_apply Q (pr, mo, fl, lo0, ne, mr, co, ex, di) (sI_ (o : Int)) (sI_ (d : Int)) (sI_ (a : Int)) (sI_ (b : Int)) := by
  have via := sI_in ha (show 6 < 2147483648 from by omega)
  have vib := sI_in hb (show 6 < 2147483648 from by omega)
  have k := ap_159 (lo0 := lo0) (ne := ne) (mr := mr) (di := di) ho ha hb cx cy ep eq hx hy hz (by omega) (by omega) Q h
  unfold wpY_apply
  dsimp only
  rw [sI_cl (show a < 2147483648 from by omega), sI_cl (show b < 2147483648 from by omega), ep, eq]
  refine sI_bLt (o : Int) 0 (fun hh => by omega) (fun _ => sI_bLt 3 (o : Int) (fun hh => by omega) (fun _ => rY_1 hd (br_f n1_0 (rY_1 ha (br_f n1_0 (rY_1 hb (br_f n1_0 (sI_bEq (o : Int) 3 (fun hh => by omega) (fun _ => sI_bEq (o : Int) 2 (fun hh => by omega) (fun _ => ⟨via, vib, sI_bLe q p (fun c => ⟨vib, ?_⟩) (fun c => ⟨via, ?_⟩)⟩))))))))))
  · rw [show lo = q from by omega] at k
    exact k
  · rw [show lo = p from by omega] at k
    exact k
theorem ap_Y0 {fl pr mo lo0 ne mr : Int32} {co ex di : Nat → Int32} {d a b : Nat} (hd : d < 6) (ha : a < 6) (hb : b < 6) (cy : co b = 0) (Q : Int32 → SY → Prop) (h : Q 4 (pr, mo, fl ||| 4, lo0, ne, mr, co, ex, di)) :
    wpY_apply Q (pr, mo, fl, lo0, ne, mr, co, ex, di) 3 (sI_ (d : Int)) (sI_ (a : Int)) (sI_ (b : Int)) := by
  have via := sI_in ha (show 6 < 2147483648 from by omega)
  have vib := sI_in hb (show 6 < 2147483648 from by omega)
  unfold wpY_apply wpY_divide
  dsimp only
  rw [sI_cl (show b < 2147483648 from by omega), cy]
  exact br_f (by decide) (br_f (by decide) (rY_1 hd (br_f n1_0 (rY_1 ha (br_f n1_0 (rY_1 hb (br_f n1_0 (br_t rfl ⟨via, vib, nm_e ⟨vib, br_t rfl (nm_e h)⟩⟩))))))))
