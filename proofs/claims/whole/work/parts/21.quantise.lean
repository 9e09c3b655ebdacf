/-- quantise: Y -/
theorem qz_204 {post : Int32 → SY → Prop} {mo fl lo mr : Int32} {co ex di : Nat → Int32} (P : Nat) (neg ch lw : Bool) (c d : Nat) (e : Int) (hP : 3 ≤ P ∧ P ≤ 7) (hd : d < 6) (hc : c < 10 ^ 18) (he : -20 ≤ e ∧ e ≤ 20)
    (hs : c < 10 ^ P → KY_ post (sI_ (P : Int)) mo (rs_ neg c e (bI_ ch ||| (if lw = true then 2 else 0)) fl co ex d)) (hr : 10 ^ P ≤ c → KY_ post (sI_ (P : Int)) mo (8, fl ||| 8, co, ex)) :
    wY_quantise_204 post (sI_ (d : Int)) (sI_ e) (bI_ lw) (sL_ (c : Int)) (bI_ ch) (sI_ (P : Int)) mo fl lo (bI_ neg) mr co ex di := by
  have k244 : ∀ z : Int, z = sg_ neg c → c < 10 ^ P → wY_quantise_244 post (sI_ (d : Int)) (sI_ e) (bI_ lw) (bI_ ch) (sL_ z) (sI_ (d : Int)) (sI_ (P : Int)) mo fl lo (bI_ neg) mr co ex di := by
    intro z hz hcP
    have h := hs hcP
    have hcl : cl_ e = e := by unfold cl_; rw [if_neg (by omega), if_neg (by omega)]
    have hno : ¬ (c ≠ 0 ∧ (e < -20 ∨ 20 < e)) := by omega
    unfold rs_ at h
    rw [if_neg hno, hcl] at h
    unfold wY_quantise_244
    rw [sI_cl (show d < 2147483648 from by omega), sL_i, hz]
    refine ⟨sI_in hd (by omega), nm_e ⟨sI_in hd (by omega), nm_e (bI_br ch (fun e1 => bI_br lw (fun e2 => ?_) (fun e2 => ?_)) (fun e1 => bI_br lw (fun e2 => ?_) (fun e2 => ?_)))⟩⟩
    · rw [e1, e2, if_neg (by decide)] at h; exact nm_e (h _ _ _ _)
    · rw [e1, e2, if_pos rfl] at h; exact nm_e (h _ _ _ _)
    · rw [e1, e2, if_neg (by decide)] at h; exact nm_e (h _ _ _ _)
    · rw [e1, e2, if_pos rfl] at h; exact nm_e (h _ _ _ _)
  unfold wY_quantise_204
  refine yk_dig (c : Int) P rfl (by omega) (by omega) (fun x hx => yk_if hx (fun q => bI_br neg (fun b => k244 _ ?_ (by omega)) (fun b => ?_)) (fun q => nm_e (hr (by omega) _ _ _ _)))
  · rw [b]; rfl
  · rw [sL_neg]; refine k244 _ ?_ (by omega); rw [b]; rfl
theorem qz_147 (post : Int32 → SY → Prop) (pr fl lo : Int32) (co ex di : Nat → Int32) (x1 x3 x4 : Int32) (mode : Nat) (neg : Bool) {M : Nat} (n c : Nat) (hm : mode ≤ 6) (D : dg_ di M) (hn : n ≤ 128) (hc : c = M / 10 ^ n) (hc2 : c < 10 ^ 18)
    (h : wY_quantise_204 post x1 x3 x4 (sL_ (rq_ mode neg M n false : Int)) (bI_ (decide (M % 10 ^ n ≠ 0))) pr (sI_ (mode : Int)) fl lo (bI_ neg) (bI_ false) co ex di) :
    ∀ d k : Nat, k + d = n → wY_quantise_147 post x1 x3 x4 (sI_ (n : Int)) (sL_ (c : Int)) pr (sI_ (mode : Int)) fl lo (bI_ neg) (bI_ false) co ex di (d + 1) (bI_ (decide (M % 10 ^ k ≠ 0))) (sI_ (k : Int)) := by
  intro d
  induction d with
  | zero =>
    intro k hk
    have : k = n := by omega
    subst this
    have key : wY_quantise_192 post x1 x3 x4 (sL_ (c : Int)) (bI_ (decide (M % 10 ^ k ≠ 0))) (bI_ (decide (c % 2 = 1))) (sI_ (k : Int)) pr (sI_ (mode : Int)) fl lo (bI_ neg) (bI_ false) co ex di := by
      unfold rq_ at h
      rw [← hc] at h
      refine yv_up mode hm neg false D c k (by omega) (fun _ => rfl) (bI_br _ (fun z => ?_) (fun z => nm_r (sL_add (c : Int) 1) ?_))
      · rw [z, if_neg (by decide)] at h; exact h
      · rw [z, if_pos rfl] at h; exact h
    refine sI_bLe (k : Int) (k : Int) (fun _ => ⟨sL_2, ?_⟩) (fun hh => by omega)
    rw [sL_rem2 (by omega), Int.tmod_eq_emod_of_nonneg (by omega)]
    refine sL_bEq ((c : Int) % 2) 1 (fun z => ?_) (fun z => ?_)
    · rw [show decide (c % 2 = 1) = true from decide_eq_true (by omega)] at key
      exact key
    · rw [show decide (c % 2 = 1) = false from decide_eq_false (by omega)] at key
      exact key
  | succ d ih =>
    intro k hk
    refine sI_bLe (n : Int) (k : Int) (fun hh => by omega) (fun _ => ⟨sI_in (by omega) (by omega), ?_⟩)
    rw [sI_cl (by omega), D k (by omega)]
    have hs := dd_m M k
    have hk1 := ih (k + 1) (by omega)
    refine ys_ne (by omega) (fun z => nm_r (sI_add k 1) ?_) (fun z => nm_r (sI_add k 1) ?_)
    · rw [hs, z, Nat.mul_zero, Nat.add_zero] at hk1
      exact hk1
    · have hp := Nat.mul_pos (tn_ k) (Nat.pos_of_ne_zero z)
      rw [decide_eq_true (show M % 10 ^ (k + 1) ≠ 0 from by rw [hs]; omega)] at hk1
      exact hk1
theorem qz_63 {post : Int32 → SY → Prop} {fl lo0 ne mr x4 : Int32} {co ex di : Nat → Int32} (P mode : Nat) {d a n : Nat} {x p e lo : Int} {M : Nat} (hP : 3 ≤ P ∧ P ≤ 7) (hm : mode ≤ 6) (ha : a < 6) (cx : co a = sI_ x) (ep : ex a = sI_ p) (hx : x.natAbs < 10 ^ 7)
    (hp : 0 ≤ p - lo ∧ p - lo ≤ 100) (hn : e - lo = (n : Int)) (hn2 : n ≤ 100) (hM : M = x.natAbs * 10 ^ (p - lo).toNat)
    (h8 : 10 ^ (n + 18) ≤ M → KY_ post (sI_ (P : Int)) (sI_ (mode : Int)) (8, fl ||| 8, co, ex))
    (h : M < 10 ^ (n + 18) → ∀ di', wY_quantise_204 post (sI_ (d : Int)) (sI_ e) x4 (sL_ (rq_ mode (decide (x < 0)) M n false : Int)) (bI_ (decide (M % 10 ^ n ≠ 0))) (sI_ (P : Int)) (sI_ (mode : Int)) fl (sI_ lo) (bI_ (decide (x < 0))) (bI_ false) co ex di') :
    wY_quantise_63 post (sI_ (d : Int)) (sI_ (a : Int)) (sI_ e) x4 (sI_ lo) (sI_ (P : Int)) (sI_ (mode : Int)) fl lo0 ne mr co ex di := by
  have via := sI_in ha (show 6 < 2147483648 from by omega)
  have hV : (x * 10 ^ (p - lo).toNat).natAbs = M := by
    rw [Int.natAbs_mul, Int.natAbs_pow, hM]; rfl
  have hVb : (x * 10 ^ (p - lo).toNat).natAbs < 10 ^ 128 := by
    have := bf_sum (x := x) (y := 0) (i := (p - lo).toNat) (j := 0) (by omega) (by decide) (by omega) (by omega)
    rw [Int.zero_mul, Int.add_zero] at this
    exact this
  have hneg : decide (x * 10 ^ (p - lo).toNat < 0) = decide (x < 0) := by
    have t := tp_ (p - lo).toNat
    generalize (10 : Int) ^ (p - lo).toNat = T at *
    rw [decide_eq_decide]
    constructor
    · intro z
      by_cases c : x < 0
      · exact c
      · have := Int.mul_nonneg (show 0 ≤ x from by omega) (Int.le_of_lt t)
        omega
    · intro z
      exact Int.mul_neg_of_neg_of_pos z t
  unfold wY_quantise_63
  rw [sI_cl (show a < 2147483648 from by omega)]
  refine ya_begin (fun d1 h1 => ⟨via, via, ?_⟩)
  dsimp only
  rw [cx, ep, sI_l (by omega) (by omega)]
  refine bf_p1 x p lo h1 (by omega) hp (fun d2 h2 h3 _ => ?_)
  have hb50 : ∀ i, i < 128 → -50 ≤ (d2 i).toInt ∧ (d2 i).toInt ≤ 50 := fun i hi => by have := h3 i hi; omega
  refine yt_tidy false _ h2 hVb hb50 (fun d3 D => ?_)
  rw [hV] at D hVb
  rw [hneg, Bool.false_or]
  have fin : ∀ c : Nat, c = M / 10 ^ n → M < 10 ^ (n + 18) → ∃ n147, wY_quantise_147 post (sI_ (d : Int)) (sI_ e) x4 (sI_ (n : Int)) (sL_ (c : Int)) (sI_ (P : Int)) (sI_ (mode : Int)) fl (sI_ lo) (bI_ (decide (x < 0))) (bI_ false) co ex d3 n147 0 0 := by
    intro c hc hM2
    have hc2 : c < 10 ^ 18 := by
      rw [hc]
      refine Nat.div_lt_of_lt_mul ?_
      rw [← Nat.pow_add]
      exact hM2
    have k := qz_147 post (sI_ (P : Int)) fl (sI_ lo) co ex d3 (sI_ (d : Int)) (sI_ e) x4 mode (decide (x < 0)) n c hm D (by omega) hc hc2 (h hM2 d3) n 0 (by omega)
    rw [Nat.pow_zero, Nat.mod_one] at k
    exact ⟨_, k⟩
  refine nm_r (e' := sI_ (n : Int)) (by rw [sI_sub, hn]) ?_
  have hcut : ∀ r : Int, -1 ≤ r ∧ r < 128 → sI_ r - sI_ (n : Int) + 1 = sI_ (r - n + 1) := fun r _ => by rw [sI_sub, sI_p1]
  have hcut1 : (-1 : Int32) - sI_ (n : Int) + 1 = sI_ ((-1 : Int) - n + 1) := by
    rw [show (-1 : Int32) = sI_ (-1) from rfl, sI_sub, sI_p1]
  refine ys_top D hVb (fun z => ?_) (fun t ht g1 g2 => ?_)
  · refine sI_bLe ((-1 : Int) - n + 1) 18 (fun _ => sI_bLe (n : Int) (-1) (fun hh => by omega) (fun _ => fin 0 ?_ ?_)) (fun hh => by omega) hcut1
    · rw [z, Nat.zero_div]
    · rw [z]; exact tn_ _
  · refine sI_bLe ((t : Int) - n + 1) 18 (fun g3 => ?_) (fun g3 => ?_) (hcut t (by omega))
    · have hM2 : M < 10 ^ (n + 18) := by
        have := dd_le (a := t + 1) (b := n + 18) (by omega)
        omega
      refine sI_bLe (n : Int) (t : Int) (fun g4 => ?_) (fun g4 => fin 0 ?_ hM2)
      · refine ys_part D n t (by omega) ht g2 ?_ (fin _ rfl hM2)
        refine Nat.div_lt_of_lt_mul ?_
        rw [← Nat.pow_add]
        exact hM2
      · have := dd_le (a := t + 1) (b := n) (by omega)
        rw [Nat.div_eq_of_lt (by omega)]
    · have := dd_le (a := n + 18) (b := t) (by omega)
      exact nm_e (h8 (by omega) _ _ _ _)
