/-- X: shorten, store, finish -/
theorem xf_dle (m : Nat) {i j : Nat} (h : i ≤ j) : m / 10 ^ j ≤ m / 10 ^ i := Nat.div_le_div_left (dd_le h) (tn_ i)
theorem xf_rq (mode : Nat) (neg : Bool) (m k : Nat) (more : Bool) : m / 10 ^ k ≤ rq_ mode neg m k more ∧ rq_ mode neg m k more ≤ m / 10 ^ k + 1 := by
  unfold rq_
  by_cases c : ru_ mode neg (m / 10 ^ k) (m % 10 ^ k) (10 ^ k) more = true
  · rw [if_pos c]; omega
  · rw [if_neg c]; omega
theorem xf_34 {post : Int32 → SX → Prop} {ra : Int32} {co ex : Nat → Int32} (P mode : Nat) (neg tail : Bool) (m : Nat) (s : Int) (K : Nat)
    (hP : 3 ≤ P ∧ P ≤ 7) (hm : mode ≤ 6) (hK : K ≤ 18) (hmm : m < 9 * 10 ^ 18) (h1 : m / 10 ^ K < 10 ^ P)
    (h : post (bI_ (decide (m % 10 ^ K ≠ 0) || tail)) (sL_ ((10 ^ P : Nat) : Int), sI_ (mode : Int), ra, bI_ neg, sL_ (rc_ P (rq_ mode neg m K tail) : Int), sI_ (s + K + re_ P (rq_ mode neg m K tail)), bI_ tail, co, ex)) :
    wX_shorten_34 post (sI_ (K : Int)) (sL_ ((10 ^ P : Nat) : Int)) (sI_ (mode : Int)) ra (bI_ neg) (sL_ (m : Int)) (sI_ s) (bI_ tail) co ex := by
  have hp := yf_p hP
  have hr := xf_rq mode neg m K tail
  unfold wX_shorten_34
  refine xa_drop mode hm neg tail m s K K (by omega) (Or.inl ⟨rfl, hK⟩) hmm ?_
  unfold rc_ re_ at h
  generalize 10 ^ P = T at *
  generalize rq_ mode neg m K tail = r at *
  refine sL_bLt (r : Int) (T : Int) (fun z => ⟨bI_n _, ?_⟩) (fun z => ⟨sL_10, ?_⟩)
  · rw [if_neg (by omega), if_neg (by omega), Int.add_zero] at h
    exact h
  · rw [if_pos (by omega), if_pos (by omega)] at h
    refine nm_r (sL_div10 (a := (r : Int)) (by omega)) (nm_r (sI_p1 _) ⟨bI_n _, ?_⟩)
    rw [Int.natCast_tdiv_eq_ediv]
    exact h
theorem xf_short1 (post : Int32 → SX → Prop) (ra : Int32) (co ex : Nat → Int32) (P mode : Nat) (neg tail : Bool) (m : Nat) (s : Int) (K : Nat)
    (hP : 3 ≤ P ∧ P ≤ 7) (hK : K ≤ 18) (hmm : m < 9 * 10 ^ 18) (h1 : m / 10 ^ K < 10 ^ P) (h2 : K = 0 ∨ 10 ^ P ≤ m / 10 ^ (K - 1))
    (h : wX_shorten_34 post (sI_ (K : Int)) (sL_ ((10 ^ P : Nat) : Int)) (sI_ (mode : Int)) ra (bI_ neg) (sL_ (m : Int)) (sI_ s) (bI_ tail) co ex) :
    ∀ d i : Nat, i + d = K → wX_shorten_7 post (sL_ ((10 ^ P : Nat) : Int)) (sI_ (mode : Int)) ra (bI_ neg) (sL_ (m : Int)) (sI_ s) (bI_ tail) co ex (d + 1) (sI_ (i : Int)) (sL_ ((m / 10 ^ i : Nat) : Int)) := by
  have hp := yf_p hP
  intro d
  induction d with
  | zero =>
    intro i hi
    have : i = K := by omega
    subst this
    have hn1 := Int.natCast_nonneg (m / 10 ^ i)
    have hq : m / 10 ^ i ≤ m := Nat.div_le_self _ _
    generalize hT : 10 ^ P = T at *
    generalize hM : m / 10 ^ i = x at *
    exact sI_bLe 18 (i : Int) (fun _ => h) (fun _ => sL_bLt (x : Int) (T : Int) (fun _ => h) (fun hh => by omega))
  | succ d ih =>
    intro i hi
    have g1 : m / 10 ^ (K - 1) ≤ m / 10 ^ i := xf_dle m (by omega)
    have hq : m / 10 ^ i ≤ m := Nat.div_le_self _ _
    have g2 : m / 10 ^ i / 10 = m / 10 ^ (i + 1) := by rw [Nat.pow_succ, Nat.div_div_eq_div_mul]
    have hi1 := ih (i + 1) (by omega)
    have g3 : 10 ^ P ≤ m / 10 ^ i := by
      rcases h2 with h2 | h2
      · omega
      · exact Nat.le_trans h2 g1
    rw [← g2] at hi1
    clear h h1 h2 g1 g2 ih
    generalize hT : 10 ^ P = T at *
    generalize hM : m / 10 ^ i = x at *
    refine sI_bLe 18 (i : Int) (fun hh => by omega) (fun _ => sL_bLt (x : Int) (T : Int) (fun hh => by omega) (fun _ => ⟨sL_10, nm_r (sL_div10 (a := (x : Int)) (by omega)) (nm_r (sI_add i 1) ?_)⟩))
    rw [Int.natCast_tdiv_eq_ediv]
    exact hi1
theorem xf_short {post : Int32 → SX → Prop} {ra : Int32} {co ex : Nat → Int32} (P mode : Nat) (neg tail : Bool) (m : Nat) (s : Int) (K : Nat)
    (hP : 3 ≤ P ∧ P ≤ 7) (hm : mode ≤ 6) (hK : K ≤ 18) (hmm : m < 9 * 10 ^ 18) (h1 : m / 10 ^ K < 10 ^ P) (h2 : K = 0 ∨ 10 ^ P ≤ m / 10 ^ (K - 1))
    (h : post (bI_ (decide (m % 10 ^ K ≠ 0) || tail)) (sL_ ((10 ^ P : Nat) : Int), sI_ (mode : Int), ra, bI_ neg, sL_ (rc_ P (rq_ mode neg m K tail) : Int), sI_ (s + K + re_ P (rq_ mode neg m K tail)), bI_ tail, co, ex)) :
    wpX_shorten post (sL_ ((10 ^ P : Nat) : Int), sI_ (mode : Int), ra, bI_ neg, sL_ (m : Int), sI_ s, bI_ tail, co, ex) := by
  have k := xf_short1 post ra co ex P mode neg tail m s K hP hK hmm h1 h2 (xf_34 P mode neg tail m s K hP hm hK hmm h1 h) K 0 (by omega)
  rw [Nat.pow_zero, Nat.div_one] at k
  exact ⟨_, k⟩
theorem xf_store {post : SX → Prop} {li : Int64} {ro ra sc ta e : Int32} {co ex : Nat → Int32} (neg : Bool) (m d : Nat) (hd : d < 6)
    (h : post (li, ro, ra, bI_ neg, sL_ (m : Int), sc, ta, upd co d (sI_ (sg_ neg m)), upd ex d e)) :
    wpX_store post (li, ro, ra, bI_ neg, sL_ (m : Int), sc, ta, co, ex) (sI_ (d : Int)) e := by
  have k : ∀ z : Int, z = sg_ neg m → wX_store_24 post (sI_ (d : Int)) e (sL_ z) (sI_ (d : Int)) li ro ra (bI_ neg) (sL_ (m : Int)) sc ta co ex := by
    intro z hz
    subst hz
    unfold wX_store_24
    rw [sI_cl (by omega), sL_i]
    exact ⟨sI_in hd (by omega), nm_e ⟨sI_in hd (by omega), nm_e h⟩⟩
  refine bI_br neg (fun b => k _ ?_) (fun b => ?_)
  · rw [b]; rfl
  · rw [sL_neg]; refine k _ ?_; rw [b]; rfl
def KX_ (post : Int32 → SX → Prop) (li : Int64) (ro : Int32) (t : Int32 × Int32 × (Nat → Int32) × (Nat → Int32)) : Prop :=
  ∀ (ne : Int32) (ma : Int64) (sc ta : Int32), post t.1 (li, ro, t.2.1, ne, ma, sc, ta, t.2.2.1, t.2.2.2)
theorem xf_fin0 {post : Int32 → SX → Prop} {li : Int64} {ro ra sc ta : Int32} {co ex : Nat → Int32} (neg : Bool) (w : Int) (d : Nat) (hd : d < 6) (hw : -1000 ≤ w ∧ w ≤ 1000)
    (h : KX_ post li ro (rs_ neg 0 w 0 ra co ex d)) :
    wpX_finish post (li, ro, ra, bI_ neg, sL_ ((0 : Nat) : Int), sc, ta, co, ex) (sI_ (d : Int)) (sI_ w) := by
  unfold rs_ at h
  rw [if_neg (by omega), show ra ||| 0 = ra from Int32.or_zero] at h
  have k : ∀ x : Int32, x = sI_ (cl_ w) → wpX_store (fun u => match u with | (f_limit_58, f_rounding_59, f_raised_60, f_negative_61, f_magnitude_62, f_scale_63, f_tail_64, a_coefficients_65, a_exponents_66) => (post 0 (f_limit_58, f_rounding_59, f_raised_60, f_negative_61, f_magnitude_62, f_scale_63, f_tail_64, a_coefficients_65, a_exponents_66))) (li, ro, ra, bI_ neg, sL_ ((0 : Nat) : Int), sc, ta, co, ex) (sI_ (d : Int)) x := by
    intro x hx
    subst hx
    exact xf_store neg 0 d hd (h _ _ _ _)
  refine br_t rfl (sI_bLe (-20) w (fun z => sI_bLe w 20 (fun z2 => k _ ?_) (fun z2 => k _ ?_)) (fun z => k _ ?_))
  · unfold cl_; rw [if_neg (by omega), if_neg (by omega)]
  · unfold cl_; rw [if_neg (by omega), if_pos (by omega)]; rfl
  · unfold cl_; rw [if_pos (by omega)]; rfl
theorem xf_fin {post : Int32 → SX → Prop} {ra : Int32} {co ex : Nat → Int32} (P mode : Nat) (neg tail : Bool) (m : Nat) (s w : Int) (K d : Nat)
    (hP : 3 ≤ P ∧ P ≤ 7) (hm : mode ≤ 6) (hd : d < 6) (hs : -1000 ≤ s ∧ s ≤ 1000) (hw : -1000 ≤ w ∧ w ≤ 1000) (hK : K ≤ 18) (hmm : m < 9 * 10 ^ 18) (hm0 : m ≠ 0) (h1 : m / 10 ^ K < 10 ^ P) (h2 : K = 0 ∨ 10 ^ P ≤ m / 10 ^ (K - 1))
    (h : KX_ post (sL_ ((10 ^ P : Nat) : Int)) (sI_ (mode : Int)) (rs_ neg (rc_ P (rq_ mode neg m K tail)) (s + K + re_ P (rq_ mode neg m K tail))
      (if m % 10 ^ K ≠ 0 ∨ tail = true then 3 else if w < s + K + re_ P (rq_ mode neg m K tail) then 2 else 0) ra co ex d)) :
    wpX_finish post (sL_ ((10 ^ P : Nat) : Int), sI_ (mode : Int), ra, bI_ neg, sL_ (m : Int), sI_ s, bI_ tail, co, ex) (sI_ (d : Int)) (sI_ w) := by
  have hp := yf_p hP
  have hr := xf_rq mode neg m K tail
  have hq0 : 1 ≤ m / 10 ^ K := by
    rcases h2 with h2 | h2
    · subst h2; rw [Nat.pow_zero, Nat.div_one]; omega
    · by_cases c : K = 0
      · subst c; rw [Nat.pow_zero, Nat.div_one]; omega
      · have e : m / 10 ^ K = m / 10 ^ (K - 1) / 10 := by
          rw [Nat.div_div_eq_div_mul, ← Nat.pow_succ, show (K - 1).succ = K from by omega]
        rw [e]
        generalize m / 10 ^ (K - 1) = x at *
        omega
  have hc0 : rc_ P (rq_ mode neg m K tail) ≠ 0 := by
    unfold rc_
    generalize rq_ mode neg m K tail = r at *
    by_cases c : 10 ^ P ≤ r
    · rw [if_pos c]; omega
    · rw [if_neg c]; omega
  have he : -2000 ≤ s + K + re_ P (rq_ mode neg m K tail) ∧ s + K + re_ P (rq_ mode neg m K tail) ≤ 2000 := by
    unfold re_
    by_cases c : 10 ^ P ≤ rq_ mode neg m K tail
    · rw [if_pos c]; omega
    · rw [if_neg c]; omega
  refine br_f (sL_n0 (by omega) (by omega)) (xf_short P mode neg tail m s K hP hm hK hmm h1 h2 ?_)
  generalize hE : s + K + re_ P (rq_ mode neg m K tail) = E at *
  generalize hC : rc_ P (rq_ mode neg m K tail) = C at *
  have kr : (E < -20 ∨ 20 < E) → wpX_raise (fun r_46 u => match u with | (f_limit_47, f_rounding_48, f_raised_49, f_negative_50, f_magnitude_51, f_scale_52, f_tail_53, a_coefficients_54, a_exponents_55) => (post r_46 (f_limit_47, f_rounding_48, f_raised_49, f_negative_50, f_magnitude_51, f_scale_52, f_tail_53, a_coefficients_54, a_exponents_55))) (sL_ ((10 ^ P : Nat) : Int), sI_ (mode : Int), ra, bI_ neg, sL_ (C : Int), sI_ E, bI_ tail, co, ex) 8 := by
    intro c
    unfold rs_ at h
    rw [if_pos ⟨hc0, c⟩] at h
    exact nm_e (h _ _ _ _)
  refine sI_bLt E (-20) (fun z => br_t rfl (kr (Or.inl z))) (fun z => sI_bLt 20 E (fun z2 => br_t rfl (kr (Or.inr z2))) (fun z2 => br_f (by decide) ?_))
  unfold rs_ at h
  have hcl : cl_ E = E := by unfold cl_; rw [if_neg (by omega), if_neg (by omega)]
  rw [if_neg (by omega), hcl] at h
  refine xf_store neg C d hd ?_
  refine bI_br _ (fun z3 => ?_) (fun z3 => ?_)
  · rw [Bool.or_eq_false_iff, decide_eq_false_iff_not] at z3
    have nn : ¬ (m % 10 ^ K ≠ 0 ∨ tail = true) := by
      rw [z3.2]
      intro c
      rcases c with c | c
      · exact z3.1 c
      · exact absurd c (by decide)
    rw [if_neg nn] at h
    refine sI_bLe E w (fun z4 => ?_) (fun z4 => ?_)
    · rw [if_neg (by omega)] at h
      exact nm_e (h _ _ _ _)
    · rw [if_pos (by omega)] at h
      exact nm_e (h _ _ _ _)
  · rw [Bool.or_eq_true, decide_eq_true_eq] at z3
    rw [if_pos z3] at h
    exact nm_e (h _ _ _ _)
