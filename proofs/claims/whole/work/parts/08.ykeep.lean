/-- Y: digitsOf, keep -/
theorem yk_if {c d A B : Prop} (e : c ↔ d) (f : d → A) (g : ¬ d → B) : (c → A) ∧ (¬ c → B) :=
  ⟨fun h => f (e.1 h), fun h => g (fun k => h (e.2 k))⟩
theorem yk_ex (A : Nat) : ∀ d : Nat, A < 10 ^ (d + 1) → ∃ L : Nat, 1 ≤ L ∧ L ≤ d + 1 ∧ A < 10 ^ L ∧ ∀ j, 1 ≤ j → A < 10 ^ j → L ≤ j
  | 0, h => ⟨1, by omega, by omega, h, fun j hj _ => hj⟩
  | d + 1, h => by
    by_cases c : A < 10 ^ (d + 1)
    · obtain ⟨L, h1, h2, h3, h4⟩ := yk_ex A d c
      exact ⟨L, h1, by omega, h3, h4⟩
    · refine ⟨d + 2, by omega, by omega, h, fun j hj hA => ?_⟩
      by_cases e : d + 2 ≤ j
      · exact e
      · have := dd_le (a := j) (b := d + 1) (by omega)
        omega
theorem yk_dig1 (post : Int32 → Prop) (pr mo fl lo ne mr : Int32) (co ex di : Nat → Int32) (A L : Nat) (hA : A < 10 ^ 18) (hL1 : 1 ≤ L) (hL2 : L ≤ 18) (hL3 : A < 10 ^ L) (hL4 : ∀ j, 1 ≤ j → A < 10 ^ j → L ≤ j)
    (h : post (sI_ (L : Int))) :
    ∀ d k : Nat, k + d = 18 → wY_digitsOf_19 post pr mo fl lo ne mr co ex di (d + 1) (sL_ ((A / 10 ^ k : Nat) : Int)) (sI_ ((if k + 1 ≤ L then k + 1 else L : Nat) : Int)) (sI_ (k : Int)) := by
  intro d
  induction d with
  | zero =>
    intro k hk
    refine sI_bLe 18 (k : Int) (fun _ => ?_) (fun hh => by omega)
    rw [if_neg (by omega)]
    exact h
  | succ d ih =>
    intro k hk
    have hle : A / 10 ^ k ≤ A := Nat.div_le_self _ _
    have hn1 := Int.natCast_nonneg (A / 10 ^ k)
    have hn2 := Int.natCast_nonneg (A / 10 ^ (k + 1))
    have hlt : A / 10 ^ k < 10 ^ 18 := by omega
    have hdd : A / 10 ^ k / 10 = A / 10 ^ (k + 1) := by rw [Nat.pow_succ, Nat.div_div_eq_div_mul]
    have hx : sL_ ((A / 10 ^ k : Nat) : Int) / 10 = sL_ ((A / 10 ^ (k + 1) : Nat) : Int) := by
      rw [sL_div10 (by omega), ← hdd, Int.natCast_tdiv_eq_ediv]
      congr 1
    have hlt2 : A / 10 ^ (k + 1) < 10 ^ 18 := by
      have := Nat.div_le_self A (10 ^ (k + 1))
      omega
    have hi := ih (k + 1) (by omega)
    refine sI_bLe 18 (k : Int) (fun hh => by omega) (fun _ => ⟨sL_10, nm_r hx (sL_bLe ((A / 10 ^ (k + 1) : Nat) : Int) 0 (fun z => nm_r (sI_add k 1) ?_) (fun z => ?_))⟩)
    · have z0 : A / 10 ^ (k + 1) = 0 := by omega
      have z1 : A < 10 ^ (k + 1) := (Nat.div_eq_zero_iff_lt (tn_ _)).1 z0
      have z2 := hL4 (k + 1) (by omega) z1
      rw [if_neg (by omega)] at hi
      have e : (if k + 1 ≤ L then k + 1 else L) = L := by
        by_cases c : k + 1 ≤ L
        · rw [if_pos c]; omega
        · rw [if_neg c]
      rw [e]
      exact hi
    · have z0 : 1 ≤ A / 10 ^ (k + 1) := by omega
      have z1 : 10 ^ (k + 1) ≤ A := by
        have := (Nat.le_div_iff_mul_le (tn_ _)).1 z0
        omega
      have z2 : k + 1 < L := by
        have : 10 ^ (k + 1) < 10 ^ L := by omega
        exact dd_rv this
      rw [if_pos (by omega)] at hi
      rw [if_pos (by omega)]
      exact nm_r (sI_add (k + 1 : Nat) 1) (nm_r (sI_add k 1) hi)
theorem yk_dig {post : Int32 → Prop} {pr mo fl lo ne mr : Int32} {co ex di : Nat → Int32} {z : Int64} (v : Int) (P : Nat) (hz : z = sL_ v) (hv : v.natAbs < 10 ^ 18) (hP : 1 ≤ P ∧ P ≤ 18)
    (h : ∀ r : Int32, (r ≤ sI_ (P : Int) ↔ v.natAbs < 10 ^ P) → post r) :
    wpY_digitsOf post (pr, mo, fl, lo, ne, mr, co, ex, di) z := by
  subst hz
  obtain ⟨L, h1, h2, h3, h4⟩ := yk_ex v.natAbs 17 hv
  have hp : post (sI_ (L : Int)) := h _ (by
    rw [sI_leI (by omega) (by omega)]
    constructor
    · intro q
      have := dd_le (a := L) (b := P) (by omega)
      omega
    · intro q
      have := h4 P hP.1 q
      omega)
  have k := yk_dig1 post pr mo fl lo ne mr co ex di v.natAbs L hv h1 (by omega) h3 h4 hp 18 0 rfl
  rw [Nat.pow_zero, Nat.div_one, if_pos (by omega)] at k
  refine sL_bLe 0 v (fun q => ?_) (fun q => nm_r (sL_neg v) ?_)
  · rw [show ((v.natAbs : Nat) : Int) = v from by omega] at k
    exact ⟨_, k⟩
  · rw [show ((v.natAbs : Nat) : Int) = -v from by omega] at k
    exact ⟨_, k⟩
def cl_ (e : Int) : Int := if e < -20 then -20 else if 20 < e then 20 else e
def sg_ (neg : Bool) (c : Nat) : Int := if neg then -(c : Int) else (c : Int)
/-- what a finished call answers, and the flags and registers that it leaves -/
def rs_ (neg : Bool) (c : Nat) (e : Int) (f fl : Int32) (co ex : Nat → Int32) (d : Nat) : Int32 × Int32 × (Nat → Int32) × (Nat → Int32) :=
  if c ≠ 0 ∧ (e < -20 ∨ 20 < e) then (8, fl ||| 8, co, ex) else (f, fl ||| f, upd co d (sI_ (sg_ neg c)), upd ex d (sI_ (cl_ e)))
def KY_ (post : Int32 → SY → Prop) (pr mo : Int32) (t : Int32 × Int32 × (Nat → Int32) × (Nat → Int32)) : Prop :=
  ∀ (lo ne mr : Int32) (di : Nat → Int32), post t.1 (pr, mo, t.2.1, lo, ne, mr, t.2.2.1, t.2.2.2, di)
theorem yk_keep {post : Int32 → SY → Prop} {pr mo fl lo mr : Int32} {co ex di : Nat → Int32} (neg : Bool) (d c : Nat) (e : Int) {f : Int32} (hd : d < 6) (hc : c < 10 ^ 9) (he : -1000 ≤ e ∧ e ≤ 1000)
    (h : KY_ post pr mo (rs_ neg c e f fl co ex d)) :
    wpY_keep post (pr, mo, fl, lo, bI_ neg, mr, co, ex, di) (sI_ (d : Int)) (sL_ (c : Int)) (sI_ e) f := by
  have kin : ∀ x : Int32, x = sI_ (cl_ e) → ¬ (c ≠ 0 ∧ (e < -20 ∨ 20 < e)) → wY_keep_78 post f x (sI_ (d : Int)) pr mo fl lo (bI_ neg) mr (upd co d (sI_ (sg_ neg c))) ex di := by
    intro x hx hn
    unfold rs_ at h
    rw [if_neg hn] at h
    refine ⟨sI_in hd (by omega), nm_e (nm_e ?_)⟩
    rw [sI_cl (by omega), hx]
    exact h _ _ _ _
  have k45 : ∀ z : Int, z = sg_ neg c → ¬ (c ≠ 0 ∧ (e < -20 ∨ 20 < e)) → wY_keep_45 post (sI_ (d : Int)) (sI_ e) f (sL_ z) (sI_ (d : Int)) pr mo fl lo (bI_ neg) mr co ex di := by
    intro z hz hn
    refine ⟨sI_in hd (by omega), nm_e ?_⟩
    rw [sI_cl (by omega), sL_i, hz]
    refine sI_bLe (-20) e (fun h1 => sI_bLe e 20 (fun h2 => kin _ ?_ hn) (fun h2 => kin _ ?_ hn)) (fun h1 => kin _ ?_ hn)
    · unfold cl_; rw [if_neg (by omega), if_neg (by omega)]
    · unfold cl_; rw [if_neg (by omega), if_pos (by omega)]; rfl
    · unfold cl_; rw [if_pos (by omega)]; rfl
  have k27 : ¬ (c ≠ 0 ∧ (e < -20 ∨ 20 < e)) → wY_keep_27 post (sI_ (d : Int)) (sL_ (c : Int)) (sI_ e) f pr mo fl lo (bI_ neg) mr co ex di := by
    intro hn
    refine bI_br neg (fun b => k45 _ ?_ hn) (fun b => ?_)
    · rw [b]; rfl
    · rw [sL_neg]
      refine k45 _ ?_ hn
      rw [b]; rfl
  have k20 : (c ≠ 0 ∧ (e < -20 ∨ 20 < e)) → wY_keep_20 post pr mo fl lo (bI_ neg) mr co ex di := by
    intro hn
    unfold rs_ at h
    rw [if_pos hn] at h
    exact nm_e (h _ _ _ _)
  refine sL_bEq (c : Int) 0 (fun z => k27 (by omega)) (fun z => sI_bLt e (-20) (fun z2 => k20 (by omega)) (fun z2 => sI_bLe e 20 (fun z3 => k27 (by omega)) (fun z3 => k20 (by omega))))
