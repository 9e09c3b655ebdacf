/-- fused -/
theorem fu_74 {pr mo fl lo0 ne mr : Int32} {co ex di : Nat → Int32} {d a b c : Nat} (ha : a < 6) (hb : b < 6) (hc : c < 6) {x y z p q s lo : Int} (cx : co a = sI_ x) (cy : co b = sI_ y) (cz : co c = sI_ z) (es : ex c = sI_ s) (hx : x.natAbs < 10 ^ 7) (hy : y.natAbs < 10 ^ 7) (hz : z.natAbs < 10 ^ 7)
    (hp : 0 ≤ p - lo ∧ p - lo ≤ 100) (hs : 0 ≤ s - lo ∧ s - lo ≤ 100)
    (Q : Int32 → SY → Prop) (h : ∀ (q' : Int32 → SY → Prop) (di : Nat → Int32), (∀ r a1 a2 a3 a4 a5 a6 a7 a8 a9, Q r (a1, a2, a3, a4, a5, a6, a7, a8, a9) → q' r (a1, a2, a3, a4, a5, a6, a7, a8, a9)) →
      dv_ di 128 = x * y * 10 ^ (p - lo).toNat + z * 10 ^ (s - lo).toNat → (∀ i, i < 128 → -50 ≤ (di i).toInt ∧ (di i).toInt ≤ 50) → wpY_finish q' (pr, mo, fl, sI_ lo, bI_ false, bI_ false, co, ex, di) (sI_ (d : Int)) (sI_ lo)) :
    wY_fused_74 Q (sI_ (d : Int)) (sI_ (a : Int)) (sI_ (b : Int)) (sI_ (c : Int)) (sI_ p) (sI_ lo) pr mo fl lo0 ne mr co ex di := by
  have via := sI_in ha (show 6 < 2147483648 from by omega)
  have vib := sI_in hb (show 6 < 2147483648 from by omega)
  have vic := sI_in hc (show 6 < 2147483648 from by omega)
  unfold wY_fused_74
  rw [sI_cl (show a < 2147483648 from by omega), sI_cl (show b < 2147483648 from by omega), sI_cl (show c < 2147483648 from by omega)]
  refine ya_begin (fun d1 h1 => ⟨via, vib, ?_⟩)
  dsimp only
  rw [cx, cy, sI_l (by omega) (by omega), sI_l (by omega) (by omega), sL_mul]
  refine bf_p1 (x * y) p lo h1 (ap_mulB hx hy) hp (fun d2 h2 h3 _ => ⟨vic, vic, ?_⟩)
  dsimp only
  rw [cz, es, sI_l (by omega) (by omega)]
  refine bf_p2 _ z s lo h2 h3 (by omega) hs (fun d3 h4 h5 => ?_)
  exact h _ d3 (fun _ _ _ _ _ _ _ _ _ _ z => z) h4 h5
theorem fu_Y {pr mo fl lo0 ne mr : Int32} {co ex di : Nat → Int32} {d a b c : Nat} (hd : d < 6) (ha : a < 6) (hb : b < 6) (hc : c < 6) {x y z p q s lo : Int} (cx : co a = sI_ x) (cy : co b = sI_ y) (cz : co c = sI_ z) (ep : ex a = sI_ p) (eq : ex b = sI_ q) (es : ex c = sI_ s) (hx : x.natAbs < 10 ^ 7) (hy : y.natAbs < 10 ^ 7) (hz : z.natAbs < 10 ^ 7)
    (hp : -20 ≤ p ∧ p ≤ 20) (hq : -20 ≤ q ∧ q ≤ 20) (hs : -20 ≤ s ∧ s ≤ 20) (hlo : (p + q < s ∧ lo = p + q) ∨ (s ≤ p + q ∧ lo = s))
    (Q : Int32 → SY → Prop) (h : ∀ (q' : Int32 → SY → Prop) (di : Nat → Int32), (∀ r a1 a2 a3 a4 a5 a6 a7 a8 a9, Q r (a1, a2, a3, a4, a5, a6, a7, a8, a9) → q' r (a1, a2, a3, a4, a5, a6, a7, a8, a9)) →
      dv_ di 128 = x * y * 10 ^ (p + q - lo).toNat + z * 10 ^ (s - lo).toNat → (∀ i, i < 128 → -50 ≤ (di i).toInt ∧ (di i).toInt ≤ 50) → wpY_finish q' (pr, mo, fl, sI_ lo, bI_ false, bI_ false, co, ex, di) (sI_ (d : Int)) (sI_ lo)) :
    wpY_fused Q (pr, mo, fl, lo0, ne, mr, co, ex, di) (sI_ (d : Int)) (sI_ (a : Int)) (sI_ (b : Int)) (sI_ (c : Int)) := by
  have via := sI_in ha (show 6 < 2147483648 from by omega)
  have vib := sI_in hb (show 6 < 2147483648 from by omega)
  have vic := sI_in hc (show 6 < 2147483648 from by omega)
  have k := fu_74 (q := q) (lo0 := lo0) (ne := ne) (mr := mr) (di := di) ha hb hc cx cy cz es hx hy hz (by omega) (by omega) Q h
  unfold wpY_fused
  dsimp only
  rw [sI_cl (show a < 2147483648 from by omega), sI_cl (show b < 2147483648 from by omega), sI_cl (show c < 2147483648 from by omega), ep, eq, es]
  refine rY_1 hd (br_f n1_0 (rY_1 ha (br_f n1_0 (rY_1 hb (br_f n1_0 (rY_1 hc (br_f n1_0 ⟨via, vib, nm_r (sI_add p q) ⟨vic, sI_bLe s (p + q) (fun g => ⟨vic, ?_⟩) (fun g => ?_)⟩⟩)))))))
  · rw [show lo = s from by omega] at k
    exact k
  · rw [show lo = p + q from by omega] at k
    exact k
theorem fu_bad {Q : Int32 → SY → Prop} {pr mo fl lo ne mr : Int32} {co ex di : Nat → Int32} {d a b c : Int32}
    (h : Q (-1) (pr, mo, fl, lo, ne, mr, co, ex, di)) (hb : ¬ (rb_ d = true ∧ rb_ a = true ∧ rb_ b = true ∧ rb_ c = true)) :
    wpY_fused Q (pr, mo, fl, lo, ne, mr, co, ex, di) d a b c := by
  unfold wpY_fused
  dsimp only
  exact rr_Y (bI_br _ (fun _ => h) (fun e0 => rr_Y (bI_br _ (fun _ => h) (fun e1 => rr_Y (bI_br _ (fun _ => h) (fun e2 => rr_Y (bI_br _ (fun _ => h) (fun e3 => absurd ⟨e0, e1, e2, e3⟩ hb))))))))
theorem i_vc_fused {k : Nat} {u : SX} {v : SY} (I : i_Rel k u v) (hk : k + 5 ≤ 2561) (v1 : Int32) (v2 : Int32) (v3 : Int32) (v4 : Int32) : wpX_fused (fun r u' => wpY_fused (fun r' v' => r' = r ∧ i_Rel (k + 5) u' v') v v1 v2 v3 v4) u v1 v2 v3 v4 := by
  have I' := i_up I
  obtain ⟨P, mode, fl, co, ex, ne, ma, sc, ta, lo, ne', mr, di, rfl, rfl, hP, hm, hR⟩ := I
  by_cases hb : ¬ (rb_ v1 = true ∧ rb_ v2 = true ∧ rb_ v3 = true ∧ rb_ v4 = true)
  · have h := fu_bad (Q := fun r' v' => r' = -1 ∧ i_Rel (k + 5) (sL_ ((10 ^ P : Nat) : Int), sI_ (mode : Int), fl, ne, ma, sc, ta, co, ex) v') ⟨rfl, I'⟩ hb
    unfold wpX_fused
    dsimp only
    exact rr_X (bI_br _ (fun _ => h) (fun e0 => rr_X (bI_br _ (fun _ => h) (fun e1 => rr_X (bI_br _ (fun _ => h) (fun e2 => rr_X (bI_br _ (fun _ => h) (fun e3 => absurd ⟨e0, e1, e2, e3⟩ hb))))))))
  · obtain ⟨e0, e1, e2, e3⟩ := Decidable.not_not.1 hb
    obtain ⟨d, hd, rfl⟩ := rb_of e0
    obtain ⟨a, ha, rfl⟩ := rb_of e1
    obtain ⟨b, hb', rfl⟩ := rb_of e2
    obtain ⟨c, hc, rfl⟩ := rb_of e3
    obtain ⟨x, cx, hx0, hx⟩ := rg_c hR hP ha
    obtain ⟨y, cy, hy0, hy⟩ := rg_c hR hP hb'
    obtain ⟨z, cz, hz0, hz⟩ := rg_c hR hP hc
    obtain ⟨p, ep, hp⟩ := rg_e hR ha
    obtain ⟨q, eq, hq⟩ := rg_e hR hb'
    obtain ⟨s, es, hs⟩ := rg_e hR hc
    have via := sI_in ha (show 6 < 2147483648 from by omega)
    have vib := sI_in hb' (show 6 < 2147483648 from by omega)
    have vic := sI_in hc (show 6 < 2147483648 from by omega)
    obtain ⟨lw, hlw⟩ : ∃ lw : Int, (p + q < s ∧ lw = p + q) ∨ (s ≤ p + q ∧ lw = s) := by
      by_cases c : p + q < s
      · exact ⟨p + q, Or.inl ⟨c, rfl⟩⟩
      · exact ⟨s, Or.inr ⟨by omega, rfl⟩⟩
    have hs2 := fun (K : SX → Prop) (post : Int32 → SX → Prop) hK hpost => bf_hs (K := K) (post := post) (ne := ne) (ma := ma) (sc := sc) (ta := ta) (fl := fl) (fun q => wpY_fused q (sI_ (P : Int), sI_ (mode : Int), fl, lo, ne', mr, co, ex, di) (sI_ (d : Int)) (sI_ (a : Int)) (sI_ (b : Int)) (sI_ (c : Int))) (k + 5) P mode d (x * y) z (p + q) s lw _ hP hm hR hd (ap_mulB hx hy) (by omega) (by omega) (by omega) hlw rfl hK hpost (fun Q h => fu_Y hd ha hb' hc cx cy cz ep eq es hx hy hz hp hq hs hlw Q h)
    unfold wpX_fused
    dsimp only
    refine rX_1 hd (br_f n1_0 (rX_1 ha (br_f n1_0 (rX_1 hb' (br_f n1_0 (rX_1 hc (br_f n1_0 ⟨via, vib, nm_r (e' := sL_ (x * y)) ?_ ⟨via, vib, nm_r (e' := sI_ (p + q)) ?_ ⟨vic, ?_⟩⟩⟩)))))))
    · rw [sI_cl (by omega), sI_cl (by omega), cx, cy, sI_l (by omega) (by omega), sI_l (by omega) (by omega), sL_mul]
    · rw [sI_cl (by omega), sI_cl (by omega), ep, eq, sI_add]
    · rw [sI_cl (show c < 2147483648 from by omega), cz, es, sI_l (by omega) (by omega)]
      refine sI_bLe s (p + q) (fun g => ⟨vic, vic, ?_⟩) (fun g => ⟨vic, vic, ?_⟩)
      · rw [show lw = s from by omega] at hs2
        exact hs2 _ _ (fun _ _ _ _ _ _ _ _ _ h => h) (fun _ _ _ _ _ _ _ _ _ _ z => z)
      · rw [show lw = p + q from by omega] at hs2
        exact hs2 _ _ (fun _ _ _ _ _ _ _ _ _ h => h) (fun _ _ _ _ _ _ _ _ _ _ z => z)
/-- compare -/
def cm_ (T : Int) : Int32 := if T = 0 then 0 else if T < 0 then -1 else 1
theorem cm_50 {pr mo fl lo0 ne mr : Int32} {co ex di : Nat → Int32} {a b : Nat} (ha : a < 6) (hb : b < 6) {x y p q lo T : Int} (cx : co a = sI_ x) (cy : co b = sI_ y) (ep : ex a = sI_ p) (eq : ex b = sI_ q) (hx : x.natAbs < 10 ^ 7) (hy : y.natAbs < 10 ^ 7)
    (hp : 0 ≤ p - lo ∧ p - lo ≤ 100) (hq : 0 ≤ q - lo ∧ q - lo ≤ 100) (hT : x * 10 ^ (p - lo).toNat + (-y) * 10 ^ (q - lo).toNat = T)
    (Q : Int32 → SY → Prop) (h : ∀ lo' ne' mr' di', Q (cm_ T) (pr, mo, fl, lo', ne', mr', co, ex, di')) :
    wY_compare_50 Q (sI_ (a : Int)) (sI_ (b : Int)) (sI_ lo) pr mo fl lo0 ne mr co ex di := by
  have via := sI_in ha (show 6 < 2147483648 from by omega)
  have vib := sI_in hb (show 6 < 2147483648 from by omega)
  have hTb : T.natAbs < 10 ^ 128 := by
    rw [← hT]; exact bf_sum (by omega) (by omega) (by omega) (by omega)
  unfold cm_ at h
  unfold wY_compare_50
  rw [sI_cl (show a < 2147483648 from by omega), sI_cl (show b < 2147483648 from by omega)]
  refine ya_begin (fun d1 h1 => ⟨via, via, ?_⟩)
  dsimp only
  rw [cx, ep, sI_l (by omega) (by omega)]
  refine bf_p1 x p lo h1 (by omega) hp (fun d2 h2 h3 _ => ⟨vib, vib, ?_⟩)
  dsimp only
  rw [cy, eq, sI_neg, sI_l (by omega) (by omega)]
  refine bf_p2 _ (-y) q lo h2 h3 (by omega) hq (fun d3 h4 h5 => ?_)
  refine yt_tidy false T (by rw [h4, hT]) hTb h5 (fun d4 D => ?_)
  refine ys_top D hTb (fun z => ?_) (fun t ht g1 g2 => ?_)
  · rw [if_pos (by omega)] at h
    exact br_f (by decide) (h _ _ _ _)
  · have := tn_ t
    rw [if_neg (by omega)] at h
    refine sI_bLe 0 (t : Int) (fun _ => ?_) (fun hh => by omega)
    rw [Bool.false_or]
    refine bI_br _ (fun z => ?_) (fun z => ?_)
    · rw [if_neg (of_decide_eq_false z)] at h
      exact h _ _ _ _
    · rw [if_pos (of_decide_eq_true z)] at h
      exact h _ _ _ _
theorem cm_Y {pr mo fl lo0 ne mr : Int32} {co ex di : Nat → Int32} {a b : Nat} (ha : a < 6) (hb : b < 6) {x y p q lo T : Int} (cx : co a = sI_ x) (cy : co b = sI_ y) (ep : ex a = sI_ p) (eq : ex b = sI_ q) (hx : x.natAbs < 10 ^ 7) (hy : y.natAbs < 10 ^ 7)
    (hp : -20 ≤ p ∧ p ≤ 20) (hq : -20 ≤ q ∧ q ≤ 20) (hlo : (p < q ∧ lo = p) ∨ (q ≤ p ∧ lo = q)) (hT : x * 10 ^ (p - lo).toNat + (-y) * 10 ^ (q - lo).toNat = T)
    (Q : Int32 → SY → Prop) (h : ∀ lo' ne' mr' di', Q (cm_ T) (pr, mo, fl, lo', ne', mr', co, ex, di')) :
    wpY_compare Q (pr, mo, fl, lo0, ne, mr, co, ex, di) (sI_ (a : Int)) (sI_ (b : Int)) := by
  have via := sI_in ha (show 6 < 2147483648 from by omega)
  have vib := sI_in hb (show 6 < 2147483648 from by omega)
  have k := cm_50 (lo0 := lo0) (ne := ne) (mr := mr) (di := di) ha hb cx cy ep eq hx hy (by omega) (by omega) hT Q h
  unfold wpY_compare
  dsimp only
  rw [sI_cl (show a < 2147483648 from by omega), sI_cl (show b < 2147483648 from by omega), ep, eq]
  refine rY_1 ha (br_f n1_0 (rY_1 hb (br_f n1_0 ⟨via, vib, sI_bLe q p (fun g => ⟨vib, ?_⟩) (fun g => ⟨via, ?_⟩)⟩)))
  · rw [show lo = q from by omega] at k
    exact k
  · rw [show lo = p from by omega] at k
    exact k
theorem i_vc_compare {k : Nat} {u : SX} {v : SY} (I : i_Rel k u v) (hk : k + 5 ≤ 2561) (v1 : Int32) (v2 : Int32) : wpX_compare (fun r u' => wpY_compare (fun r' v' => r' = r ∧ i_Rel (k + 5) u' v') v v1 v2) u v1 v2 := by
  have I' := i_up I
  obtain ⟨P, mode, fl, co, ex, ne, ma, sc, ta, lo, ne', mr, di, rfl, rfl, hP, hm, hR⟩ := I
  unfold wpX_compare
  dsimp only
  refine rr_X (bI_br _ (fun e1 => ?_) (fun e1 => rr_X (bI_br _ (fun e2 => ?_) (fun e2 => ?_))))
  · unfold wpY_compare
    dsimp only
    exact rr_Y (by rw [e1]; exact br_t rfl ⟨rfl, I'⟩)
  · obtain ⟨a, ha, rfl⟩ := rb_of e1
    unfold wpY_compare
    dsimp only
    exact rY_1 ha (br_f n1_0 (rr_Y (by rw [e2]; exact br_t rfl ⟨rfl, I'⟩)))
  · obtain ⟨a, ha, rfl⟩ := rb_of e1
    obtain ⟨b, hb, rfl⟩ := rb_of e2
    obtain ⟨x, cx, hx0, hx⟩ := rg_c hR hP ha
    obtain ⟨y, cy, hy0, hy⟩ := rg_c hR hP hb
    obtain ⟨p, ep, hp⟩ := rg_e hR ha
    obtain ⟨q, eq, hq⟩ := rg_e hR hb
    have via := sI_in ha (show 6 < 2147483648 from by omega)
    have vib := sI_in hb (show 6 < 2147483648 from by omega)
    obtain ⟨lw, hlw⟩ : ∃ lw : Int, (p < q ∧ lw = p) ∨ (q ≤ p ∧ lw = q) := by
      by_cases c : p < q
      · exact ⟨p, Or.inl ⟨c, rfl⟩⟩
      · exact ⟨q, Or.inr ⟨by omega, rfl⟩⟩
    obtain ⟨T, hT⟩ : ∃ T : Int, x * 10 ^ (p - lw).toNat + (-y) * 10 ^ (q - lw).toNat = T := ⟨_, rfl⟩
    refine ⟨via, via, vib, vib, ?_⟩
    rw [sI_cl (show a < 2147483648 from by omega), sI_cl (show b < 2147483648 from by omega), cx, cy, ep, eq, sI_neg, sI_l (by omega) (by omega), sI_l (by omega) (by omega)]
    have fin : ∀ (r : Int32) (n1 : Int32) (m1 : Int64) (s1 t1 : Int32), r = cm_ T → wpY_compare (fun r' v' => r' = r ∧ i_Rel (k + 5) (sL_ ((10 ^ P : Nat) : Int), sI_ (mode : Int), fl, n1, m1, s1, t1, co, ex) v') (sI_ (P : Int), sI_ (mode : Int), fl, lo, ne', mr, co, ex, di) (sI_ (a : Int)) (sI_ (b : Int)) := by
      intro r n1 m1 s1 t1 hr
      exact cm_Y ha hb cx cy ep eq hx hy hp hq hlw hT _ (fun lo' ne2 mr' di' => ⟨hr.symm, ⟨P, mode, fl, co, ex, n1, m1, s1, t1, lo', ne2, mr', di', rfl, rfl, hP, hm, hR⟩⟩)
    refine xs_sum x (-y) p q lw T (by omega) (by omega) (by omega) (by omega) hlw hT (fun f hf h1 h2 => ?_)
    dsimp only
    have n0 := Int.natCast_nonneg (T.natAbs / 10 ^ f)
    have hz : T.natAbs / 10 ^ f = 0 ↔ T = 0 := by
      constructor
      · intro z
        rcases h1 with c | c
        · subst c; rw [Nat.pow_zero, Nat.div_one] at z; omega
        · omega
      · intro z
        rw [z]; exact Nat.zero_div _
    generalize T.natAbs / 10 ^ f = m at *
    refine sL_bEq (m : Int) 0 (fun z => fin _ _ _ _ _ ?_) (fun z => bI_br _ (fun z2 => fin _ _ _ _ _ ?_) (fun z2 => fin _ _ _ _ _ ?_))
    · unfold cm_; rw [if_pos (hz.1 (by omega))]
    · unfold cm_; rw [if_neg (fun c => z (by have := hz.2 c; omega)), if_neg (of_decide_eq_false z2)]
    · unfold cm_; rw [if_neg (fun c => z (by have := hz.2 c; omega)), if_pos (of_decide_eq_true z2)]
