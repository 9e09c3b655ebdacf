theorem va2_bad {k : Nat} {Q : SX → Int32 → SY → Prop} {li ma : Int64} {ro ra ne sc ta pr mo fl lo ne' mr : Int32} {co ex co' ex' di : Nat → Int32} {op d a b : Int32}
    (h : Q (li, ro, ra, ne, ma, sc, ta, co, ex) (-1) (pr, mo, fl, lo, ne', mr, co', ex', di)) (hb : ¬ (¬ op < 0 ∧ ¬ 3 < op ∧ rb_ d = true ∧ rb_ a = true ∧ rb_ b = true)) :
    wpY_apply (Q (li, ro, ra, ne, ma, sc, ta, co, ex)) (pr, mo, fl, lo, ne', mr, co', ex', di) op d a b := by
  unfold wpY_apply
  dsimp only
  exact br_c (fun _ => h) (fun n1 => br_c (fun _ => h) (fun n2 => rr_Y (bI_br _ (fun _ => h) (fun e1 => rr_Y (bI_br _ (fun _ => h) (fun e2 => rr_Y (bI_br _ (fun _ => h) (fun e3 => absurd ⟨n1, n2, e1, e2, e3⟩ hb))))))))
theorem i_vc_apply {k : Nat} {u : SX} {v : SY} (I : i_Rel k u v) (hk : k + 5 ≤ 2561) (v1 : Int32) (v2 : Int32) (v3 : Int32) (v4 : Int32) : wpX_apply (fun r u' => wpY_apply (fun r' v' => r' = r ∧ i_Rel (k + 5) u' v') v v1 v2 v3 v4) u v1 v2 v3 v4 := by
  have I' := i_up I
  obtain ⟨P, mode, fl, co, ex, ne, ma, sc, ta, lo, ne', mr, di, rfl, rfl, hP, hm, hR⟩ := I
  have hp7 := yf_p hP
  by_cases hb : ¬ (¬ v1 < 0 ∧ ¬ 3 < v1 ∧ rb_ v2 = true ∧ rb_ v3 = true ∧ rb_ v4 = true)
  · have h := va2_bad (k := k) (Q := fun u' r' v' => r' = -1 ∧ i_Rel (k + 5) u' v') ⟨rfl, I'⟩ hb
    unfold wpX_apply
    dsimp only
    exact br_c (fun _ => h) (fun n1 => br_c (fun _ => h) (fun n2 => rr_X (bI_br _ (fun _ => h) (fun e1 => rr_X (bI_br _ (fun _ => h) (fun e2 => rr_X (bI_br _ (fun _ => h) (fun e3 => absurd ⟨n1, n2, e1, e2, e3⟩ hb))))))))
  · obtain ⟨n1, n2, e1, e2, e3⟩ := Decidable.not_not.1 hb
    obtain ⟨d, hd, rfl⟩ := rb_of e1
    obtain ⟨a, ha, rfl⟩ := rb_of e2
    obtain ⟨b, hb', rfl⟩ := rb_of e3
    obtain ⟨x, cx, hx0, hx⟩ := rg_c hR hP ha
    obtain ⟨y, cy, hy0, hy⟩ := rg_c hR hP hb'
    obtain ⟨p, ep, hp⟩ := rg_e hR ha
    obtain ⟨q, eq, hq⟩ := rg_e hR hb'
    obtain ⟨o, ho, rfl⟩ : ∃ o : Nat, o < 4 ∧ v1 = sI_ (o : Int) := by
      have b1 := Int32.toInt_lt v1
      have b2 := Int32.le_toInt v1
      have e0 := sI_self v1
      rw [Int32.lt_iff_toInt_lt, Int32.toInt_zero] at n1
      rw [Int32.lt_iff_toInt_lt, show (3 : Int32).toInt = 3 from rfl] at n2
      refine ⟨v1.toInt.toNat, by omega, ?_⟩
      rw [show ((v1.toInt.toNat : Nat) : Int) = v1.toInt from by omega, sI_self]
    have via := sI_in ha (show 6 < 2147483648 from by omega)
    have vib := sI_in hb' (show 6 < 2147483648 from by omega)
    unfold wpX_apply
    dsimp only
    refine br_f n1 (br_f n2 (rX_1 hd (br_f n1_0 (rX_1 ha (br_f n1_0 (rX_1 hb' (br_f n1_0 ⟨via, nm_r (e' := sL_ x) ?_ ⟨vib, nm_r (e' := sL_ y) ?_ ⟨via, nm_r (e' := sI_ p) ?_ ⟨vib, nm_r (e' := sI_ q) ?_ ?_⟩⟩⟩⟩)))))))
    · rw [sI_cl (by omega), cx, sI_l (by omega) (by omega)]
    · rw [sI_cl (by omega), cy, sI_l (by omega) (by omega)]
    · rw [sI_cl (by omega), ep]
    · rw [sI_cl (by omega), eq]
    have cs : o = 2 ∨ o = 3 ∨ o < 2 := by omega
    rcases cs with rfl | rfl | ho2
    · refine br_t rfl (nm_r (sI_add p q) ?_)
      rw [sL_mul]
      have hxy := ap_mulB hx hy
      refine xa_hold (x * y) (by omega) ?_
      dsimp only
      unfold wX_apply_165
      refine bf_fin (fun q => wpY_apply q (sI_ (P : Int), sI_ (mode : Int), fl, lo, ne', mr, co, ex, di) (sI_ ((2 : Nat) : Int)) (sI_ (d : Int)) (sI_ (a : Int)) (sI_ (b : Int))) (k + 5) P mode d (x * y).natAbs 0 false (decide (x * y < 0)) false false (p + q) (p + q) (p + q) (x * y) hP hm hR hd (by omega) (by omega) (by omega) (by omega) (fun c => absurd c (by decide)) (by omega) (by rw [Nat.pow_zero, Nat.div_one]) (by omega) rfl (by rw [Nat.pow_zero, Nat.mod_one]; rfl) (by omega) (fun c => absurd c (by decide)) (fun _ => Or.inl ⟨by omega, fun _ => rfl⟩) (fun _ _ _ _ _ _ _ _ _ _ z => z) (fun Q h => ?_)
      exact ap_Ymul hd ha hb' cx cy ep eq hx hy Q h
    · refine br_f (by decide) (br_t rfl (sL_bEq y 0 (fun z => ?_) (fun z => nm_r (sI_sub p q) ?_)))
      · subst z
        exact nm_e (ap_Y0 hd ha hb' cy _ ⟨rfl, ⟨P, mode, fl ||| 4, co, ex, ne, ma, sc, ta, lo, ne', mr, di, rfl, rfl, hP, hm, hR⟩⟩)
      · refine xq_quot x y (p - q) hx hy z (fun i hi h1 h2 h3 => ?_)
        dsimp only
        unfold wX_apply_165
        have am := aq_m (A := x.natAbs) (B := y.natAbs) (i := i) (by omega) (by omega)
        have hV0 : x.natAbs * 10 ^ 40 / y.natAbs < 10 ^ 128 := by
          have := Nat.div_le_self (x.natAbs * 10 ^ 40) y.natAbs
          omega
        have nV : (((x.natAbs * 10 ^ 40 / y.natAbs : Nat) : Int)).natAbs = x.natAbs * 10 ^ 40 / y.natAbs := Int.natAbs_natCast _
        have nV0 : decide (((x.natAbs * 10 ^ 40 / y.natAbs : Nat) : Int) < 0) = false := decide_eq_false (by have := Int.natCast_nonneg (x.natAbs * 10 ^ 40 / y.natAbs); omega)
        refine bf_fin (fun q => wpY_apply q (sI_ (P : Int), sI_ (mode : Int), fl, lo, ne', mr, co, ex, di) (sI_ ((3 : Nat) : Int)) (sI_ (d : Int)) (sI_ (a : Int)) (sI_ (b : Int))) (k + 5) P mode d (x.natAbs * 10 ^ i / y.natAbs) (40 - i) (decide (x < 0) != decide (y < 0)) (decide (x < 0) != decide (y < 0)) (decide (x.natAbs * 10 ^ 40 % y.natAbs ≠ 0)) (decide (x.natAbs * 10 ^ i % y.natAbs ≠ 0)) (p - q - 40) (p - q) (p - q - i) ((x.natAbs * 10 ^ 40 / y.natAbs : Nat) : Int) hP hm hR hd (by omega) (by omega) (by omega) (by rw [nV]; exact hV0) ?_ (by omega) (by rw [nV]; exact am.1) ?_ (by rw [nV0, Bool.or_false]) ?_ (by omega) ?_ ?_ (fun _ _ _ _ _ _ _ _ _ _ z => z) (fun Q h => ?_)
        · intro c
          have c1 := of_decide_eq_true c
          rw [nV, Nat.le_div_iff_mul_le (by omega)]
          have a1 : 1 ≤ x.natAbs := by
            by_cases c2 : x.natAbs = 0
            · rw [c2, Nat.zero_mul, Nat.zero_mod] at c1; exact absurd rfl c1
            · omega
          exact aq_big a1 hp7.2 hy
        · intro c
          by_cases c1 : x.natAbs * 10 ^ i % y.natAbs = 0
          · have c2 : x.natAbs * 10 ^ i = 0 := by
              have := Nat.div_add_mod (x.natAbs * 10 ^ i) y.natAbs
              rw [c, c1, Nat.mul_zero] at this
              omega
            have c3 : x.natAbs = 0 := by
              rcases Nat.mul_eq_zero.1 c2 with c3 | c3
              · exact c3
              · have := tn_ i; omega
            rw [c3, Nat.zero_mul, Nat.zero_div]; rfl
          · have := h1 c1
            omega
        · rw [nV, ← Bool.decide_or, decide_eq_decide]
          exact am.2
        · intro c
          have := h1 (of_decide_eq_true c)
          omega
        · intro c
          have c1 := of_decide_eq_false c
          rcases h2 (by omega) with c2 | c2
          · exact Or.inl ⟨by omega, fun _ => by omega⟩
          · by_cases c3 : i = 0
            · exact Or.inl ⟨by omega, fun _ => by omega⟩
            · exact Or.inr ⟨by omega, c2⟩
        · exact aq_Y hd ha hb' cx cy ep eq hx hy z Q h
    · have o2 : ¬ sI_ (o : Int) = 2 := fun e => by have := (sI_eqI (a := o) (b := 2) (by omega) (by omega)).1 e; omega
      have o3 : ¬ sI_ (o : Int) = 3 := fun e => by have := (sI_eqI (a := o) (b := 3) (by omega) (by omega)).1 e; omega
      obtain ⟨lw, hlw⟩ : ∃ lw : Int, (p < q ∧ lw = p) ∨ (q ≤ p ∧ lw = q) := by
        by_cases c : p < q
        · exact ⟨p, Or.inl ⟨c, rfl⟩⟩
        · exact ⟨q, Or.inr ⟨by omega, rfl⟩⟩
      obtain ⟨z, hz⟩ : ∃ z : Int, z = if o = 0 then y else -y := ⟨_, rfl⟩
      have hzb : z.natAbs < 10 ^ 15 := by
        rw [hz]
        by_cases c : o = 0
        · rw [if_pos c]; omega
        · rw [if_neg c]; omega
      have key : ∀ zz : Int64, zz = sL_ z → wX_apply_160 (fun r u' => wpY_apply (fun r' v' => r' = r ∧ i_Rel (k + 5) u' v') (sI_ (P : Int), sI_ (mode : Int), fl, lo, ne', mr, co, ex, di) (sI_ (o : Int)) (sI_ (d : Int)) (sI_ (a : Int)) (sI_ (b : Int))) (sI_ (d : Int)) (sI_ q) (sI_ lw) zz (sI_ p) (sL_ x) (sL_ ((10 ^ P : Nat) : Int)) (sI_ (mode : Int)) fl ne ma sc ta co ex := by
        intro zz hzz
        subst hzz
        unfold wX_apply_160 wX_apply_165
        exact bf_hs (fun q => wpY_apply q (sI_ (P : Int), sI_ (mode : Int), fl, lo, ne', mr, co, ex, di) (sI_ (o : Int)) (sI_ (d : Int)) (sI_ (a : Int)) (sI_ (b : Int))) (k + 5) P mode d x z p q lw _ hP hm hR hd (by omega) hzb (by omega) (by omega) hlw rfl (fun _ _ _ _ _ _ _ _ _ h => h) (fun _ _ _ _ _ _ _ _ _ _ z => z) (fun Q h => ap_Ysum ho2 hd ha hb' cx cy ep eq hx hy hz hp hq hlw Q h)
      have key2 : ∀ r : Int32, r = sI_ lw → ((sI_ (o : Int) = 1 → wX_apply_160 (fun r u' => wpY_apply (fun r' v' => r' = r ∧ i_Rel (k + 5) u' v') (sI_ (P : Int), sI_ (mode : Int), fl, lo, ne', mr, co, ex, di) (sI_ (o : Int)) (sI_ (d : Int)) (sI_ (a : Int)) (sI_ (b : Int))) (sI_ (d : Int)) (sI_ q) r (-sL_ y) (sI_ p) (sL_ x) (sL_ ((10 ^ P : Nat) : Int)) (sI_ (mode : Int)) fl ne ma sc ta co ex) ∧ (¬ sI_ (o : Int) = 1 → wX_apply_160 (fun r u' => wpY_apply (fun r' v' => r' = r ∧ i_Rel (k + 5) u' v') (sI_ (P : Int), sI_ (mode : Int), fl, lo, ne', mr, co, ex, di) (sI_ (o : Int)) (sI_ (d : Int)) (sI_ (a : Int)) (sI_ (b : Int))) (sI_ (d : Int)) (sI_ q) r (sL_ y) (sI_ p) (sL_ x) (sL_ ((10 ^ P : Nat) : Int)) (sI_ (mode : Int)) fl ne ma sc ta co ex)) := by
        intro r hr
        subst hr
        refine sI_bEq (o : Int) 1 (fun c => key _ ?_) (fun c => key _ ?_)
        · rw [hz, if_neg (by omega), sL_neg]
        · rw [hz, if_pos (by omega)]
      refine br_f o2 (br_f o3 (sI_bLe q p (fun c => key2 _ ?_) (fun c => key2 _ ?_)))
      · rw [show lw = q from by omega]
      · rw [show lw = p from by omega]
