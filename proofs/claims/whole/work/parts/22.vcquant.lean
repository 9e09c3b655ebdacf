theorem qy_top {Q : Int32 → SY → Prop} {pr mo fl lo ne mr : Int32} {co ex di : Nat → Int32} {d a : Nat} (hd : d < 6) (ha : a < 6) {p e : Int} (ep : ex a = sI_ p) (hp : -20 ≤ p ∧ p ≤ 20) (he : -20 ≤ e ∧ e ≤ 20)
    (h0 : e ≤ p → wY_quantise_63 Q (sI_ (d : Int)) (sI_ (a : Int)) (sI_ e) (bI_ false) (sI_ e) pr mo fl lo ne mr co ex di)
    (h1 : p < e → wY_quantise_63 Q (sI_ (d : Int)) (sI_ (a : Int)) (sI_ e) (bI_ true) (sI_ p) pr mo fl lo ne mr co ex di) :
    wpY_quantise Q (pr, mo, fl, lo, ne, mr, co, ex, di) (sI_ (d : Int)) (sI_ (a : Int)) (sI_ e) := by
  have via := sI_in ha (show 6 < 2147483648 from by omega)
  unfold wpY_quantise wY_quantise_45
  dsimp only
  rw [sI_cl (show a < 2147483648 from by omega), ep]
  exact rY_1 hd (br_f n1_0 (rY_1 ha (br_f n1_0 (sI_bLt e (-20) (fun hh => by omega) (fun _ => sI_bLe e 20 (fun _ => ⟨via, sI_bLe e p (fun c => br_t rfl (h0 c)) (fun c => br_f (by decide) ⟨via, h1 c⟩)⟩) (fun hh => by omega))))))
theorem qy_low {Q : Int32 → SY → Prop} {fl lo ne mr : Int32} {co ex di : Nat → Int32} (P mode : Nat) {d a n : Nat} {x p e : Int} (hP : 3 ≤ P ∧ P ≤ 7) (hm : mode ≤ 6) (hd : d < 6) (ha : a < 6) (cx : co a = sI_ x) (ep : ex a = sI_ p) (hx : x.natAbs < 10 ^ P) (hp : -20 ≤ p ∧ p ≤ 20) (he : -20 ≤ e ∧ e ≤ 20) (hn : e - p = (n : Int)) (hn1 : 1 ≤ n)
    (h : rq_ mode (decide (x < 0)) x.natAbs n false < 10 ^ P → KY_ Q (sI_ (P : Int)) (sI_ (mode : Int)) (rs_ (decide (x < 0)) (rq_ mode (decide (x < 0)) x.natAbs n false) e (if x.natAbs % 10 ^ n ≠ 0 then 3 else 2) fl co ex d)) :
    wpY_quantise Q (sI_ (P : Int), sI_ (mode : Int), fl, lo, ne, mr, co, ex, di) (sI_ (d : Int)) (sI_ (a : Int)) (sI_ e) := by
  have hpp := yf_p hP
  have hr := xf_rq mode (decide (x < 0)) x.natAbs n false
  have h10 : x.natAbs / 10 ^ n ≤ x.natAbs / 10 := by
    have := xf_dle x.natAbs (i := 1) (j := n) hn1
    rw [Nat.pow_one] at this
    exact this
  have hc : rq_ mode (decide (x < 0)) x.natAbs n false < 10 ^ P := by omega
  have k := h hc
  refine qy_top hd ha ep hp he (fun c => by omega) (fun c => ?_)
  refine qz_63 (n := n) (M := x.natAbs) P mode hP hm ha cx ep (by omega) (by omega) hn (by omega) (by rw [Int.sub_self, Int.toNat_zero, Nat.pow_zero, Nat.mul_one]) (fun g => ?_) (fun _ di' => ?_)
  · have := dd_le (a := 18) (b := n + 18) (by omega)
    omega
  · refine qz_204 P _ _ true _ d e hP hd (by omega) he (fun _ => ?_) (fun g => by omega)
    by_cases c : x.natAbs % 10 ^ n ≠ 0
    · rw [if_pos c] at k
      rw [decide_eq_true c]
      exact k
    · rw [if_neg c] at k
      rw [decide_eq_false c]
      exact k
theorem qy_same {Q : Int32 → SY → Prop} {fl lo ne mr : Int32} {co ex di : Nat → Int32} (P mode : Nat) {d a n : Nat} {x p e : Int} (hP : 3 ≤ P ∧ P ≤ 7) (hm : mode ≤ 6) (hd : d < 6) (ha : a < 6) (cx : co a = sI_ x) (ep : ex a = sI_ p) (hx : x.natAbs < 10 ^ P) (hp : -20 ≤ p ∧ p ≤ 20) (he : -20 ≤ e ∧ e ≤ 20) (hn : p - e = (n : Int))
    (hs : x.natAbs * 10 ^ n < 10 ^ P → KY_ Q (sI_ (P : Int)) (sI_ (mode : Int)) (rs_ (decide (x < 0)) (x.natAbs * 10 ^ n) e 0 fl co ex d))
    (hr : 10 ^ P ≤ x.natAbs * 10 ^ n → KY_ Q (sI_ (P : Int)) (sI_ (mode : Int)) (8, fl ||| 8, co, ex)) :
    wpY_quantise Q (sI_ (P : Int), sI_ (mode : Int), fl, lo, ne, mr, co, ex, di) (sI_ (d : Int)) (sI_ (a : Int)) (sI_ e) := by
  have hpp := yf_p hP
  refine qy_top hd ha ep hp he (fun c => ?_) (fun c => by omega)
  refine qz_63 (n := 0) (M := x.natAbs * 10 ^ n) P mode hP hm ha cx ep (by omega) (by omega) (by omega) (by omega) (by rw [hn]; rfl) (fun g => hr ?_) (fun g di' => ?_)
  · have := dd_le (a := P) (b := 0 + 18) (by omega)
    omega
  · generalize x.natAbs * 10 ^ n = M at *
    rw [mm_rq0 mode _ M 0 (Nat.mod_one M), Nat.pow_zero, Nat.div_one, Nat.mod_one]
    exact qz_204 P _ false false M d e hP hd (by omega) he (fun q => hs q) (fun q => hr q)
theorem qx_ru {R U U' : Nat} (mode : Nat) (neg : Bool) (q : Nat) (more : Bool) (h1 : 2 * R < U) (h2 : 2 * R < U') : ru_ mode neg q R U more = ru_ mode neg q R U' more := by
  unfold ru_
  have a1 : ¬ U < 2 * R := by omega
  have a2 : ¬ 2 * R = U := by omega
  have a3 : ¬ U ≤ 2 * R := by omega
  have b1 : ¬ U' < 2 * R := by omega
  have b2 : ¬ 2 * R = U' := by omega
  have b3 : ¬ U' ≤ 2 * R := by omega
  simp only [a1, a2, a3, b1, b2, b3]
theorem qx_rq (mode : Nat) (neg : Bool) {m n N : Nat} (hm : m < 10 ^ 7) (hN : (N = n ∧ n ≤ 18) ∨ (N = 18 ∧ 18 ≤ n)) :
    rq_ mode neg m N false = rq_ mode neg m n false ∧ m % 10 ^ N = m % 10 ^ n := by
  rcases hN with ⟨rfl, _⟩ | ⟨rfl, h⟩
  · exact ⟨rfl, rfl⟩
  · have := dd_le (a := 18) (b := n) h
    have e1 : m / 10 ^ n = m / 10 ^ 18 := by rw [Nat.div_eq_of_lt (by omega), Nat.div_eq_of_lt (by omega)]
    have e2 : m % 10 ^ n = m % 10 ^ 18 := by rw [Nat.mod_eq_of_lt (by omega), Nat.mod_eq_of_lt (by omega)]
    have e3 : m % 10 ^ 18 = m := Nat.mod_eq_of_lt (by omega)
    refine ⟨?_, e2.symm⟩
    unfold rq_
    rw [e1, e2, e3, qx_ru mode neg _ false (show 2 * m < 10 ^ n from by omega) (show 2 * m < 10 ^ 18 from by omega)]
theorem i_vc_quantise {k : Nat} {u : SX} {v : SY} (I : i_Rel k u v) (hk : k + 5 ≤ 2561) (v1 : Int32) (v2 : Int32) (v3 : Int32) : wpX_quantise (fun r u' => wpY_quantise (fun r' v' => r' = r ∧ i_Rel (k + 5) u' v') v v1 v2 v3) u v1 v2 v3 := by
  have I' := i_up I
  obtain ⟨P, mode, fl, co, ex, ne, ma, sc, ta, lo, ne', mr, di, rfl, rfl, hP, hm, hR⟩ := I
  have hpp := yf_p hP
  unfold wpX_quantise
  dsimp only
  refine rr_X (bI_br _ (fun e1 => ?_) (fun e1 => rr_X (bI_br _ (fun e2 => ?_) (fun e2 => re_X (bI_br _ (fun e3 => ?_) (fun e3 => ?_))))))
  · unfold wpY_quantise
    dsimp only
    exact rr_Y (by rw [e1]; exact br_t rfl ⟨rfl, I'⟩)
  · obtain ⟨d, hd, rfl⟩ := rb_of e1
    unfold wpY_quantise
    dsimp only
    exact rY_1 hd (br_f n1_0 (rr_Y (by rw [e2]; exact br_t rfl ⟨rfl, I'⟩)))
  · obtain ⟨d, hd, rfl⟩ := rb_of e1
    obtain ⟨a, ha, rfl⟩ := rb_of e2
    unfold wpY_quantise
    dsimp only
    have g1 := Int32.toInt_lt v3
    have g2 := Int32.le_toInt v3
    have g3 := of_decide_eq_false e3
    have g0 := sI_self v3
    generalize v3.toInt = e at *
    subst g0
    exact rY_1 hd (br_f n1_0 (rY_1 ha (br_f n1_0 (sI_bLt e (-20) (fun _ => ⟨rfl, I'⟩) (fun _ => sI_bLe e 20 (fun _ => by omega) (fun _ => ⟨rfl, I'⟩))))))
  · obtain ⟨d, hd, rfl⟩ := rb_of e1
    obtain ⟨a, ha, rfl⟩ := rb_of e2
    obtain ⟨e, he, rfl⟩ := eb_of e3
    obtain ⟨x, cx, hx0, hx⟩ := rg_c hR hP ha
    obtain ⟨p, ep, hp⟩ := rg_e hR ha
    have via := sI_in ha (show 6 < 2147483648 from by omega)
    refine ⟨via, via, ?_⟩
    rw [sI_cl (show a < 2147483648 from by omega), cx, ep, sI_l (by omega) (by omega)]
    refine xa_hold x (by omega) ?_
    dsimp only
    refine nm_r (sI_sub e p) (sI_bLe (e - p) 0 (fun c => ?_) (fun c => ?_))
    · obtain ⟨n, hn⟩ := Int.eq_ofNat_of_zero_le (show 0 ≤ p - e from by omega)
      have hneg : -sI_ (e - p) = sI_ (n : Int) := by rw [sI_neg]; congr 1; omega
      rw [hneg]
      have key : ∀ N : Nat, (N = n ∧ n ≤ 7) ∨ (N = 7 ∧ 7 ≤ n) → wpX_powerOfTen (fun r_22 => (∀ f_magnitude_23 : Int64, f_magnitude_23 = sL_ (x.natAbs : Int) * r_22 → (((f_magnitude_23 < sL_ ((10 ^ P : Nat) : Int) → (wpX_store (fun u => match u with | (f_limit_26, f_rounding_27, f_raised_28, f_negative_29, f_magnitude_30, f_scale_31, f_tail_32, a_coefficients_33, a_exponents_34) => wpY_quantise (fun r' v' => r' = 0 ∧ i_Rel (k + 5) (f_limit_26, f_rounding_27, f_raised_28, f_negative_29, f_magnitude_30, f_scale_31, f_tail_32, a_coefficients_33, a_exponents_34) v') (sI_ (P : Int), sI_ (mode : Int), fl, lo, ne', mr, co, ex, di) (sI_ (d : Int)) (sI_ (a : Int)) (sI_ e)) (sL_ ((10 ^ P : Nat) : Int), sI_ (mode : Int), fl, bI_ (decide (x < 0)), f_magnitude_23, sI_ p, bI_ false, co, ex) (sI_ (d : Int)) (sI_ e))) ∧ (¬ f_magnitude_23 < sL_ ((10 ^ P : Nat) : Int) → (wpX_raise (fun r_35 u => match u with | (f_limit_36, f_rounding_37, f_raised_38, f_negative_39, f_magnitude_40, f_scale_41, f_tail_42, a_coefficients_43, a_exponents_44) => wpY_quantise (fun r' v' => r' = r_35 ∧ i_Rel (k + 5) (f_limit_36, f_rounding_37, f_raised_38, f_negative_39, f_magnitude_40, f_scale_41, f_tail_42, a_coefficients_43, a_exponents_44) v') (sI_ (P : Int), sI_ (mode : Int), fl, lo, ne', mr, co, ex, di) (sI_ (d : Int)) (sI_ (a : Int)) (sI_ e)) (sL_ ((10 ^ P : Nat) : Int), sI_ (mode : Int), fl, bI_ (decide (x < 0)), f_magnitude_23, sI_ p, bI_ false, co, ex) 8)))))) (sI_ (N : Int)) := by
        intro N hN
        refine xa_pow N N (by omega) (Or.inl ⟨rfl, by omega⟩) ?_
        have hN7 : 10 ^ N ≤ 10 ^ 7 := dd_le (by omega)
        have hmul : x.natAbs * 10 ^ N ≤ 10 ^ 7 * 10 ^ 7 := Nat.mul_le_mul (by omega) hN7
        have heq : (x.natAbs * 10 ^ N < 10 ^ P ↔ x.natAbs * 10 ^ n < 10 ^ P) ∧ (x.natAbs * 10 ^ N < 10 ^ P → x.natAbs * 10 ^ N = x.natAbs * 10 ^ n) := by
          rcases hN with ⟨rfl, _⟩ | ⟨rfl, h7⟩
          · exact ⟨Iff.rfl, fun _ => rfl⟩
          · by_cases z : x.natAbs = 0
            · rw [z, Nat.zero_mul, Nat.zero_mul]; exact ⟨Iff.rfl, fun _ => rfl⟩
            · have w1 := Nat.mul_le_mul (show 1 ≤ x.natAbs from by omega) (Nat.le_refl (10 ^ 7))
              have w2 := Nat.mul_le_mul (show 1 ≤ x.natAbs from by omega) (dd_le (a := 7) (b := n) h7)
              have w3 := dd_le (a := P) (b := 7) hP.2
              refine ⟨⟨fun g => ?_, fun g => ?_⟩, fun g => ?_⟩ <;> omega
        have e5 : sL_ (x.natAbs : Int) * sL_ ((10 ^ N : Nat) : Int) = sL_ ((x.natAbs * 10 ^ N : Nat) : Int) := by
          rw [sL_mul, Int.natCast_mul]
        refine nm_r e5 ?_
        generalize hM : x.natAbs * 10 ^ N = M at *
        refine sL_bLt (M : Int) ((10 ^ P : Nat) : Int) (fun z => ?_) (fun z => ?_)
        · have hM2 := heq.2 (by omega)
          refine xf_store (decide (x < 0)) M d hd ?_
          dsimp only
          refine qy_same P mode hP hm hd ha cx ep hx0 hp he hn (fun g => ?_) (fun g => by omega)
          intro lo' n2 m2 d2
          rw [← hM2]
          have hno : ¬ (M ≠ 0 ∧ (e < -20 ∨ 20 < e)) := by omega
          have hcl : cl_ e = e := by unfold cl_; rw [if_neg (by omega), if_neg (by omega)]
          have hrs : rs_ (decide (x < 0)) M e 0 fl co ex d = (0, fl, upd co d (sI_ (sg_ (decide (x < 0)) M)), upd ex d (sI_ e)) := by
            unfold rs_
            rw [if_neg hno, hcl, show fl ||| 0 = fl from Int32.or_zero]
          rw [hrs]
          refine ⟨rfl, ⟨P, mode, _, _, _, _, _, _, _, _, _, _, _, rfl, rfl, hP, hm, RG_set hR ?_ hP.2 he⟩⟩
          generalize decide (x < 0) = ng
          cases ng
          · show ((M : Int)).natAbs < _; omega
          · show (-(M : Int)).natAbs < _; omega
        · refine nm_e ?_
          dsimp only
          refine qy_same P mode hP hm hd ha cx ep hx0 hp he hn (fun g => ?_) (fun g => ?_)
          · have := heq.1.2 g
            omega
          · exact fun _ _ _ _ => ⟨rfl, ⟨P, mode, _, _, _, _, _, _, _, _, _, _, _, rfl, rfl, hP, hm, hR⟩⟩
      exact sI_bLe 7 (n : Int) (fun g => key 7 (Or.inr ⟨rfl, by omega⟩)) (fun g => key n (Or.inl ⟨rfl, by omega⟩))
    · obtain ⟨n, hn⟩ := Int.eq_ofNat_of_zero_le (show 0 ≤ e - p from by omega)
      rw [hn]
      obtain ⟨N, hN⟩ : ∃ N, (N = n ∧ n ≤ 18) ∨ (N = 18 ∧ 18 ≤ n) := by
        by_cases c : n ≤ 18
        · exact ⟨n, Or.inl ⟨rfl, c⟩⟩
        · exact ⟨18, Or.inr ⟨rfl, by omega⟩⟩
      have hq := qx_rq mode (decide (x < 0)) hx hN
      refine xa_drop mode hm (decide (x < 0)) false x.natAbs p n N (by omega) hN (by omega) ?_
      rw [hq.1, hq.2, Bool.or_false]
      dsimp only
      refine xf_store (decide (x < 0)) _ d hd ?_
      dsimp only
      have fin : ∀ f : Int32, f = (if x.natAbs % 10 ^ n ≠ 0 then 3 else 2) → wX_quantise_78 (fun r u' => wpY_quantise (fun r' v' => r' = r ∧ i_Rel (k + 5) u' v') (sI_ (P : Int), sI_ (mode : Int), fl, lo, ne', mr, co, ex, di) (sI_ (d : Int)) (sI_ (a : Int)) (sI_ e)) f (sL_ ((10 ^ P : Nat) : Int)) (sI_ (mode : Int)) fl (bI_ (decide (x < 0))) (sL_ (rq_ mode (decide (x < 0)) x.natAbs n false : Int)) (sI_ (p + n)) (bI_ false) (upd co d (sI_ (sg_ (decide (x < 0)) (rq_ mode (decide (x < 0)) x.natAbs n false)))) (upd ex d (sI_ e)) := by
        intro f hf
        unfold wX_quantise_78
        refine nm_e ?_
        dsimp only
        refine qy_low P mode hP hm hd ha cx ep hx0 hp he hn (by omega) (fun g => ?_)
        rw [← hf]
        generalize rq_ mode (decide (x < 0)) x.natAbs n false = M at *
        intro lo' n2 m2 d2
        have hno : ¬ (M ≠ 0 ∧ (e < -20 ∨ 20 < e)) := by omega
        have hcl : cl_ e = e := by unfold cl_; rw [if_neg (by omega), if_neg (by omega)]
        have hrs : rs_ (decide (x < 0)) M e f fl co ex d = (f, fl ||| f, upd co d (sI_ (sg_ (decide (x < 0)) M)), upd ex d (sI_ e)) := by
          unfold rs_
          rw [if_neg hno, hcl]
        rw [hrs]
        refine ⟨rfl, ⟨P, mode, _, _, _, _, _, _, _, _, _, _, _, rfl, rfl, hP, hm, RG_set hR ?_ hP.2 he⟩⟩
        generalize decide (x < 0) = ng
        cases ng
        · show ((M : Int)).natAbs < _; omega
        · show (-(M : Int)).natAbs < _; omega
      refine bI_br _ (fun z => fin 2 ?_) (fun z => fin 3 ?_)
      · rw [if_neg (of_decide_eq_false z)]
      · rw [if_pos (of_decide_eq_true z)]
