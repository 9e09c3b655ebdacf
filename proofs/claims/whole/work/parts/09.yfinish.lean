/-- Y: finish -/
def rq_ (mode : Nat) (neg : Bool) (m k : Nat) (more : Bool) : Nat := if ru_ mode neg (m / 10 ^ k) (m % 10 ^ k) (10 ^ k) more = true then m / 10 ^ k + 1 else m / 10 ^ k
def rc_ (P r : Nat) : Nat := if 10 ^ P ≤ r then r / 10 else r
def re_ (P r : Nat) : Int := if 10 ^ P ≤ r then 1 else 0
def fin_ (P mode : Nat) (neg : Bool) (M : Nat) (low : Int) (more : Bool) (w : Int) (c : Nat) (e : Int) (f : Int32) : Prop :=
  (M = 0 ∧ c = 0 ∧ e = w ∧ f = 0) ∨
  (∃ t b : Nat, 10 ^ t ≤ M ∧ M < 10 ^ (t + 1) ∧ M % 10 ^ b = 0 ∧ M % 10 ^ (b + 1) ≠ 0 ∧ b ≤ t ∧ more = false ∧ t + 1 ≤ b + P ∧
    e = (if w < low + t + 1 - P then low + t + 1 - P else if low + b < w then low + b else w) ∧
    c = M / 10 ^ b * 10 ^ (low + b - e).toNat ∧ f = (if w < e then 2 else 0)) ∨
  (∃ t : Nat, 10 ^ t ≤ M ∧ M < 10 ^ (t + 1) ∧ P ≤ t ∧ (more = true ∨ M % 10 ^ (t + 1 - P) ≠ 0) ∧
    c = rc_ P (rq_ mode neg M (t + 1 - P) more) ∧ e = low + (t + 1 - P : Nat) + re_ P (rq_ mode neg M (t + 1 - P) more) ∧ f = 3)
theorem yf_p {P : Nat} (h : 3 ≤ P ∧ P ≤ 7) : 1000 ≤ 10 ^ P ∧ 10 ^ P ≤ 10000000 := by
  have cs : P = 3 ∨ P = 4 ∨ P = 5 ∨ P = 6 ∨ P = 7 := by omega
  rcases cs with e | e | e | e | e <;> subst e <;> decide
theorem yf_203 {post : Int32 → SY → Prop} {mo fl mr : Int32} {co ex di : Nat → Int32} (P : Nat) (neg : Bool) (lo : Int) (d k r : Nat)
    (hP : 3 ≤ P ∧ P ≤ 7) (hd : d < 6) (hlo : -200 ≤ lo ∧ lo ≤ 200) (hk : k < 200) (hr : r ≤ 10 ^ P)
    (h : KY_ post (sI_ (P : Int)) mo (rs_ neg (rc_ P r) (lo + k + re_ P r) 3 fl co ex d)) :
    wY_finish_203 post (sI_ (d : Int)) (sI_ (k : Int)) (sL_ (r : Int)) (sI_ (P : Int)) mo fl (sI_ lo) (bI_ neg) mr co ex di := by
  have hp := yf_p hP
  unfold rc_ re_ at h
  refine nm_r (sI_add lo k) (yk_dig (r : Int) P rfl (by omega) (by omega) (fun x hx => yk_if hx (fun q => ?_) (fun q => ⟨sL_10, ?_⟩)))
  · rw [if_neg (by omega), if_neg (by omega), Int.add_zero] at h
    exact yk_keep neg d r (lo + k) hd (by omega) (by omega) (fun a b c e => h a b c e)
  · rw [if_pos (by omega), if_pos (by omega)] at h
    refine nm_r (sL_div10 (a := (r : Int)) (by omega)) (nm_r (sI_add _ 1) ?_)
    rw [Int.natCast_tdiv_eq_ediv]
    exact yk_keep neg d (r / 10) (lo + k + 1) hd (by omega) (by omega) (fun a b c e => h a b c e)
theorem yf_153 {post : Int32 → SY → Prop} {fl : Int32} {co ex di : Nat → Int32} (P mode : Nat) (neg more : Bool) (lo : Int) (d t : Nat) {M : Nat} (D : dg_ di M)
    (hP : 3 ≤ P ∧ P ≤ 7) (hm : mode ≤ 6) (hd : d < 6) (hlo : -200 ≤ lo ∧ lo ≤ 200) (ht : t < 128) (hPt : P ≤ t) (hM : M < 10 ^ (t + 1))
    (h : KY_ post (sI_ (P : Int)) (sI_ (mode : Int)) (rs_ neg (rc_ P (rq_ mode neg M (t + 1 - P) more)) (lo + (t + 1 - P : Nat) + re_ P (rq_ mode neg M (t + 1 - P) more)) 3 fl co ex d)) :
    wY_finish_153 post (sI_ (d : Int)) (sI_ (t : Int)) (sI_ (P : Int)) (sI_ (mode : Int)) fl (sI_ lo) (bI_ neg) (bI_ more) co ex di := by
  have hp := yf_p hP
  have e6 : sI_ (t : Int) - sI_ (P : Int) + 1 = sI_ ((t + 1 - P : Nat) : Int) := by
    rw [sI_sub, sI_p1, show (t : Int) - P + 1 = ((t + 1 - P : Nat) : Int) from by omega]
  have hq : M / 10 ^ (t + 1 - P) < 10 ^ P := by
    refine Nat.div_lt_of_lt_mul ?_
    rw [← Nat.pow_add, show t + 1 - P + P = t + 1 from by omega]
    exact hM
  generalize hk : t + 1 - P = k at *
  unfold rq_ at h
  generalize hQ : M / 10 ^ k = q at *
  have key : wY_finish_191 post (sI_ (d : Int)) (sI_ (k : Int)) (sL_ (q : Int)) (bI_ (decide (q % 2 = 1))) (sI_ (k : Int)) (sI_ (P : Int)) (sI_ (mode : Int)) fl (sI_ lo) (bI_ neg) (bI_ more) co ex di := by
    refine yv_up mode hm neg more D q k (by omega) (fun z => by omega) (bI_br _ (fun z => ?_) (fun z => nm_r (sL_add (q : Int) 1) ?_))
    · rw [z, if_neg (by decide)] at h
      exact yf_203 P neg lo d k q hP hd hlo (by omega) (by omega) h
    · rw [z, if_pos rfl] at h
      exact yf_203 P neg lo d k (q + 1) hP hd hlo (by omega) (by omega) h
  refine nm_r e6 (ys_part D k t (by omega) ht hM (by rw [hQ]; omega) ⟨sL_2, ?_⟩)
  rw [hQ, sL_rem2 (by omega), Int.tmod_eq_emod_of_nonneg (by omega)]
  refine sL_bEq ((q : Int) % 2) 1 (fun z => ?_) (fun z => ?_)
  · rw [show decide (q % 2 = 1) = true from decide_eq_true (by omega)] at key
    exact key
  · rw [show decide (q % 2 = 1) = false from decide_eq_false (by omega)] at key
    exact key
theorem yf_111 {post : Int32 → SY → Prop} {pr mo fl mr : Int32} {co ex di : Nat → Int32} (neg : Bool) (lo w e most : Int) (d : Nat)
    (hd : d < 6) (hw : -1000 ≤ w ∧ w ≤ 1000) (he : -1000 ≤ e ∧ e ≤ 1000) (hmost : -1000 ≤ most ∧ most ≤ 1000) : ∀ (n c : Nat) (a : Int), -1000 ≤ a → a + n = most → c * 10 ^ n < 10 ^ 9 →
    KY_ post pr mo (rs_ neg (c * 10 ^ n) e (if w < e then 2 else 0) fl co ex d) →
    wY_finish_111 post (sI_ (d : Int)) (sI_ w) (sI_ most) (sI_ e) pr mo fl (sI_ lo) (bI_ neg) mr co ex di (n + 1) (sL_ (c : Int)) (sI_ a) := by
  intro n
  induction n with
  | zero =>
    intro c a ha0 ha hc h
    rw [Nat.pow_zero, Nat.mul_one] at h hc
    refine sI_bLe most a (fun _ => sI_bLe e w (fun z => ?_) (fun z => ?_)) (fun hh => by omega)
    · rw [if_neg (by omega)] at h
      exact yk_keep neg d c e hd hc he (fun x y z t => h x y z t)
    · rw [if_pos (by omega)] at h
      exact yk_keep neg d c e hd hc he (fun x y z t => h x y z t)
  | succ n ih =>
    intro c a ha0 ha hc h
    refine sI_bLe most a (fun hh => by omega) (fun _ => nm_r (sL_mul (c : Int) 10) (nm_r (sI_p1 a) ?_))
    rw [show c * 10 ^ (n + 1) = (c * 10) * 10 ^ n from by rw [Nat.pow_succ]; grind] at h hc
    exact ih (c * 10) (a + 1) (by omega) (by omega) hc h
theorem yf_96 {post : Int32 → SY → Prop} {pr mo fl mr : Int32} {co ex di : Nat → Int32} (neg : Bool) (lo w e most : Int) (d t b : Nat) {M : Nat} (D : dg_ di M)
    (hd : d < 6) (hw : -1000 ≤ w ∧ w ≤ 1000) (he : -1000 ≤ e ∧ e ≤ most) (hmost : -1000 ≤ most ∧ most ≤ 1000) (ht : t < 128) (hb : b ≤ t) (hM : M < 10 ^ (t + 1))
    (hc : M / 10 ^ b * 10 ^ (most - e).toNat < 10 ^ 9)
    (h : KY_ post pr mo (rs_ neg (M / 10 ^ b * 10 ^ (most - e).toNat) e (if w < e then 2 else 0) fl co ex d)) :
    wY_finish_96 post (sI_ (d : Int)) (sI_ w) (sI_ (t : Int)) (sI_ (b : Int)) (sI_ most) (sI_ e) pr mo fl (sI_ lo) (bI_ neg) mr co ex di := by
  have hq : M / 10 ^ b < 10 ^ 18 := by
    have := Nat.le_mul_of_pos_right (M / 10 ^ b) (tn_ (most - e).toNat)
    omega
  refine ys_part D b t hb ht hM hq ⟨(most - e).toNat + 1, yf_111 neg lo w e most d hd hw (by omega) hmost _ _ _ he.1 (by omega) hc h⟩
theorem yf_finish {post : Int32 → SY → Prop} {fl : Int32} {co ex di : Nat → Int32} (P mode : Nat) (neg more : Bool) (lo w : Int) (d : Nat) (V : Int)
    (hP : 3 ≤ P ∧ P ≤ 7) (hm : mode ≤ 6) (hd : d < 6) (hlo : -200 ≤ lo ∧ lo ≤ 200) (hw : -200 ≤ w ∧ w ≤ 200)
    (hV : dv_ di 128 = V) (hb : V.natAbs < 10 ^ 128) (hdi : ∀ i, i < 128 → -50 ≤ (di i).toInt ∧ (di i).toInt ≤ 50) (hmore : more = true → 10 ^ P ≤ V.natAbs)
    (h : ∀ (c : Nat) (e : Int) (f : Int32), fin_ P mode (neg || decide (V < 0)) V.natAbs lo more w c e f → KY_ post (sI_ (P : Int)) (sI_ (mode : Int)) (rs_ (neg || decide (V < 0)) c e f fl co ex d)) :
    wpY_finish post (sI_ (P : Int), sI_ (mode : Int), fl, sI_ lo, bI_ neg, bI_ more, co, ex, di) (sI_ (d : Int)) (sI_ w) := by
  have hp := yf_p hP
  unfold wpY_finish
  refine yt_tidy neg V hV hb hdi (fun di' D => ?_)
  generalize hng : (neg || decide (V < 0)) = ng at *
  generalize V.natAbs = M at *
  refine ys_top D hb (fun z => ?_) (fun t ht h1 h2 => ?_)
  · exact br_f (by decide) (yk_keep ng d 0 w hd (by omega) (by omega) (fun x y z1 t => h 0 w 0 (Or.inl ⟨z, rfl, rfl, rfl⟩) x y z1 t))
  · have hM0 : M ≠ 0 := by have := tn_ t; omega
    refine sI_bLe 0 (t : Int) (fun _ => ys_bot D hb hM0 (fun b hb1 h3 h4 => ?_)) (fun hh => by omega)
    have hbt : b ≤ t := by
      by_cases c : b ≤ t
      · exact c
      · have q1 := dd_le (a := t + 1) (b := b) (by omega)
        rw [Nat.mod_eq_of_lt (by omega)] at h3
        exact absurd h3 hM0
    have e5 : sI_ (t : Int) - sI_ (b : Int) + 1 = sI_ ((t : Int) - b + 1) := by rw [sI_sub, sI_p1]
    have hB : P ≤ t → (more = true ∨ M % 10 ^ (t + 1 - P) ≠ 0) → wY_finish_153 (fun r u => post r u) (sI_ (d : Int)) (sI_ (t : Int)) (sI_ (P : Int)) (sI_ (mode : Int)) fl (sI_ lo) (bI_ ng) (bI_ more) co ex di' := by
      intro g1 g2
      exact yf_153 P mode ng more lo d t D hP hm hd hlo ht g1 h2 (h _ _ _ (Or.inr (Or.inr ⟨t, h1, h2, g1, g2, rfl, rfl, rfl⟩)))
    refine nm_r e5 (bI_br more (fun em => sI_bLt (P : Int) ((t : Int) - b + 1) (fun g => ?_) (fun g => ?_)) (fun em => ?_))
    · refine hB (by omega) (Or.inr ?_)
      intro z
      have : M % 10 ^ (b + 1) = 0 := by
        obtain ⟨x, hx⟩ := Nat.dvd_of_mod_eq_zero z
        rw [hx, show t + 1 - P = (b + 1) + (t - P - b) from by omega, Nat.pow_add, Nat.mul_assoc]
        exact Nat.mul_mod_right _ _
      exact h4 this
    · have hA : ∀ e : Int, e = (if w < lo + t + 1 - P then lo + t + 1 - P else if lo + b < w then lo + b else w) → wY_finish_96 post (sI_ (d : Int)) (sI_ w) (sI_ (t : Int)) (sI_ (b : Int)) (sI_ (lo + b)) (sI_ e) (sI_ (P : Int)) (sI_ (mode : Int)) fl (sI_ lo) (bI_ ng) (bI_ more) co ex di' := by
        intro e he
        have he2 : lo + t + 1 - P ≤ e ∧ e ≤ lo + b := by
          rw [he]
          by_cases z : w < lo + t + 1 - P
          · rw [if_pos z]; omega
          · rw [if_neg z]
            by_cases z2 : lo + b < w
            · rw [if_pos z2]; omega
            · rw [if_neg z2]; omega
        have hc : M / 10 ^ b * 10 ^ (lo + b - e).toNat < 10 ^ 9 := by
          have q1 : M / 10 ^ b < 10 ^ (t + 1 - b) := by
            refine Nat.div_lt_of_lt_mul ?_
            rw [← Nat.pow_add, show b + (t + 1 - b) = t + 1 from by omega]
            exact h2
          have q2 := Nat.mul_lt_mul_of_pos_right q1 (tn_ (lo + b - e).toNat)
          rw [← Nat.pow_add] at q2
          have q3 := dd_le (a := t + 1 - b + (lo + b - e).toNat) (b := P) (by omega)
          omega
        exact yf_96 ng lo w e (lo + b) d t b D hd (by omega) (by omega) (by omega) ht hbt h2 hc (h _ _ _ (Or.inr (Or.inl ⟨t, b, h1, h2, h3, h4, hbt, em, by omega, he, rfl, rfl⟩)))
      refine nm_r (sI_add lo b) (nm_r (e' := sI_ (lo + t + 1 - P)) ?_ (sI_bLe (lo + t + 1 - P) w (fun z => sI_bLe w (lo + b) (fun z2 => hA w ?_) (fun z2 => hA (lo + b) ?_)) (fun z => hA (lo + t + 1 - P) ?_)))
      · rw [sI_sub, sI_sub]; congr 1; omega
      · rw [if_neg (by omega), if_neg (by omega)]
      · rw [if_neg (by omega), if_pos (by omega)]
      · rw [if_pos (by omega)]
    · have := hmore em
      refine hB ?_ (Or.inl em)
      have : 10 ^ P < 10 ^ (t + 1) := by omega
      have := dd_rv this
      omega
