/-- the registers are in range -/
def RG_ (P : Nat) (co ex : Nat → Int32) : Prop := (∀ j, j < 6 → (co j).toInt.natAbs < 10 ^ P) ∧ (∀ j, j < 6 → -20 ≤ (ex j).toInt ∧ (ex j).toInt ≤ 20)
def i_Rel (k : Nat) (u : SX) (v : SY) : Prop :=
  ∃ (P mode : Nat) (fl : Int32) (co ex : Nat → Int32) (ne : Int32) (ma : Int64) (sc ta lo ne' mr : Int32) (di : Nat → Int32),
    u = (sL_ ((10 ^ P : Nat) : Int), sI_ (mode : Int), fl, ne, ma, sc, ta, co, ex) ∧ v = (sI_ (P : Int), sI_ (mode : Int), fl, lo, ne', mr, co, ex, di) ∧ (3 ≤ P ∧ P ≤ 7) ∧ mode ≤ 6 ∧ RG_ P co ex
theorem i_up {k : Nat} {u : SX} {v : SY} (h : i_Rel k u v) : i_Rel (k + 5) u v := h
theorem rl_0 (P : Nat) : RG_ P (fun _ => 0) (fun _ => 0) :=
  ⟨fun j _ => by show (0 : Int32).toInt.natAbs < _; rw [Int32.toInt_zero]; exact tn_ P, fun j _ => by show -20 ≤ (0 : Int32).toInt ∧ (0 : Int32).toInt ≤ 20; rw [Int32.toInt_zero]; omega⟩
theorem rl_init (P : Nat) (h : 3 ≤ P ∧ P ≤ 7) {k : Nat} : i_Rel k (sL_ ((10 ^ P : Nat) : Int), 0, 0, 0, 0, 0, 0, (fun _ => 0), (fun _ => 0)) (sI_ (P : Int), 0, 0, 0, 0, 0, (fun _ => 0), (fun _ => 0), (fun _ => 0)) :=
  ⟨P, 0, 0, _, _, _, _, _, _, _, _, _, _, rfl, rfl, h, by omega, rl_0 P⟩
theorem i_vc0 (k0 : Int32) : wpX_init (fun u => wpY_init (fun v => i_Rel 1 u v) k0) k0 := by
  have b1 := Int32.toInt_lt k0
  have b2 := Int32.le_toInt k0
  have e0 := sI_self k0
  generalize k0.toInt = z at *
  subst e0
  refine sI_bLe 3 z (fun h1 => sI_bLe z 7 (fun h2 => ?_) (fun h2 => ?_)) (fun h1 => ?_)
  · obtain ⟨P, hP⟩ := Int.eq_ofNat_of_zero_le (show 0 ≤ z from by omega)
    subst hP
    refine xa_pow P P (by omega) (Or.inl ⟨rfl, by omega⟩) ?_
    exact sI_bLe 3 (P : Int) (fun _ => sI_bLe (P : Int) 7 (fun _ => rl_init P (by omega)) (fun hh => by omega)) (fun hh => by omega)
  · refine xa_pow 7 7 (by omega) (Or.inl ⟨rfl, by omega⟩) ?_
    exact sI_bLe 3 z (fun _ => sI_bLe z 7 (fun hh => by omega) (fun _ => rl_init 7 (by omega))) (fun hh => by omega)
  · refine xa_pow 3 3 (by omega) (Or.inl ⟨rfl, by omega⟩) ?_
    exact sI_bLe 3 z (fun hh => by omega) (fun _ => rl_init 3 (by omega))
theorem i_vc_mode {k : Nat} {u : SX} {v : SY} (I : i_Rel k u v) (hk : k + 5 ≤ 2561) (v1 : Int32) : wpX_mode (fun r u' => wpY_mode (fun r' v' => r' = r ∧ i_Rel (k + 5) u' v') v v1) u v1 := by
  obtain ⟨P, mode, fl, co, ex, ne, ma, sc, ta, lo, ne', mr, di, rfl, rfl, hP, hm, hR⟩ := I
  have b1 := Int32.toInt_lt v1
  have b2 := Int32.le_toInt v1
  have e0 := sI_self v1
  generalize v1.toInt = z at *
  subst e0
  have same : i_Rel (k + 5) (sL_ ((10 ^ P : Nat) : Int), sI_ (mode : Int), fl, ne, ma, sc, ta, co, ex) (sI_ (P : Int), sI_ (mode : Int), fl, lo, ne', mr, co, ex, di) := ⟨P, mode, fl, co, ex, ne, ma, sc, ta, lo, ne', mr, di, rfl, rfl, hP, hm, hR⟩
  refine sI_bLt z 0 (fun h1 => ?_) (fun h1 => sI_bLe z 6 (fun h2 => ?_) (fun h2 => ?_))
  · exact sI_bLt z 0 (fun _ => ⟨rfl, same⟩) (fun hh => by omega)
  · obtain ⟨m, hm'⟩ := Int.eq_ofNat_of_zero_le h1
    subst hm'
    exact sI_bLt (m : Int) 0 (fun hh => by omega) (fun _ => sI_bLe (m : Int) 6 (fun _ => ⟨rfl, ⟨P, m, fl, co, ex, ne, ma, sc, ta, lo, ne', mr, di, rfl, rfl, hP, by omega, hR⟩⟩) (fun hh => by omega))
  · exact sI_bLt z 0 (fun hh => by omega) (fun _ => sI_bLe z 6 (fun hh => by omega) (fun _ => ⟨rfl, same⟩))
/-- registers and exponents -/
def rb_ (x : Int32) : Bool := decide (0 ≤ x.toInt ∧ x.toInt ≤ 5)
def eb_ (x : Int32) : Bool := decide (-20 ≤ x.toInt ∧ x.toInt ≤ 20)
theorem rb_of {x : Int32} (h : rb_ x = true) : ∃ j : Nat, j < 6 ∧ x = sI_ (j : Int) := by
  have := of_decide_eq_true h
  refine ⟨x.toInt.toNat, by omega, ?_⟩
  rw [show ((x.toInt.toNat : Nat) : Int) = x.toInt from by omega, sI_self]
theorem rb_i {j : Nat} (h : j < 6) : rb_ (sI_ (j : Int)) = true := by
  unfold rb_
  rw [sI_t (by omega) (by omega)]
  exact decide_eq_true (by omega)
theorem eb_of {x : Int32} (h : eb_ x = true) : ∃ e : Int, (-20 ≤ e ∧ e ≤ 20) ∧ x = sI_ e :=
  ⟨x.toInt, of_decide_eq_true h, (sI_self x).symm⟩
theorem eb_i {e : Int} (h : -20 ≤ e ∧ e ≤ 20) : eb_ (sI_ e) = true := by
  unfold eb_
  rw [sI_t (by omega) (by omega)]
  exact decide_eq_true h
theorem rr_X {post : Int32 → Prop} {x : Int32} (h : post (bI_ (rb_ x))) : wpX_isRegister post x := by
  have b1 := Int32.toInt_lt x
  have b2 := Int32.le_toInt x
  unfold rb_ at h
  have e0 := sI_self x
  generalize x.toInt = z at *
  subst e0
  refine sI_bLt z 0 (fun h1 => ?_) (fun h1 => sI_bLe 6 z (fun h2 => ?_) (fun h2 => ?_))
  · rw [decide_eq_false (by omega)] at h; exact h
  · rw [decide_eq_false (by omega)] at h; exact h
  · rw [decide_eq_true (by omega)] at h; exact h
theorem rr_Y {post : Int32 → Prop} {x pr mo fl lo ne mr : Int32} {co ex di : Nat → Int32} (h : post (bI_ (rb_ x))) : wpY_isRegister post (pr, mo, fl, lo, ne, mr, co, ex, di) x := by
  have b1 := Int32.toInt_lt x
  have b2 := Int32.le_toInt x
  unfold rb_ at h
  have e0 := sI_self x
  generalize x.toInt = z at *
  subst e0
  refine sI_bLt z 0 (fun h1 => ?_) (fun h1 => sI_bLt 5 z (fun h2 => ?_) (fun h2 => ?_))
  · rw [decide_eq_false (by omega)] at h; exact h
  · rw [decide_eq_false (by omega)] at h; exact h
  · rw [decide_eq_true (by omega)] at h; exact h
theorem re_X {post : Int32 → Prop} {x : Int32} (h : post (bI_ (eb_ x))) : wpX_isExponent post x := by
  have b1 := Int32.toInt_lt x
  have b2 := Int32.le_toInt x
  unfold eb_ at h
  have e0 := sI_self x
  generalize x.toInt = z at *
  subst e0
  refine sI_bLt z (-20) (fun h1 => ?_) (fun h1 => sI_bLt 20 z (fun h2 => ?_) (fun h2 => ?_))
  · rw [decide_eq_false (by omega)] at h; exact h
  · rw [decide_eq_false (by omega)] at h; exact h
  · rw [decide_eq_true (by omega)] at h; exact h
/-- the first checks of a call, by the same test -/
theorem rX_1 {post : Int32 → Prop} {j : Nat} (h : j < 6) (p : post 1) : wpX_isRegister post (sI_ (j : Int)) := rr_X (by rw [rb_i h]; exact p)
theorem rY_1 {post : Int32 → Prop} {j : Nat} {pr mo fl lo ne mr : Int32} {co ex di : Nat → Int32} (h : j < 6) (p : post 1) : wpY_isRegister post (pr, mo, fl, lo, ne, mr, co, ex, di) (sI_ (j : Int)) := rr_Y (by rw [rb_i h]; exact p)
theorem rX_e {post : Int32 → Prop} {e : Int} (h : -20 ≤ e ∧ e ≤ 20) (p : post 1) : wpX_isExponent post (sI_ e) := re_X (by rw [eb_i h]; exact p)
theorem n1_0 : ¬ (1 : Int32) = 0 := by decide
theorem RG_set {P : Nat} {co ex : Nat → Int32} (h : RG_ P co ex) {d : Nat} {c e : Int} (hc : c.natAbs < 10 ^ P) (hP : P ≤ 7) (he : -20 ≤ e ∧ e ≤ 20) : RG_ P (upd co d (sI_ c)) (upd ex d (sI_ e)) := by
  have hp : 10 ^ P ≤ 10 ^ 7 := dd_le hP
  refine ⟨fun j hj => ?_, fun j hj => ?_⟩
  · by_cases q : j = d
    · subst q; rw [dv_us, sI_t (by omega) (by omega)]; exact hc
    · rw [dv_un _ _ q]; exact h.1 j hj
  · by_cases q : j = d
    · subst q; rw [dv_us, sI_t (by omega) (by omega)]; exact he
    · rw [dv_un _ _ q]; exact h.2 j hj
theorem i_vc_coefficient {k : Nat} {u : SX} {v : SY} (I : i_Rel k u v) (hk : k + 5 ≤ 2561) (v1 : Int32) : wpX_coefficient (fun r => wpY_coefficient (fun r' => r' = r ∧ i_Rel (k + 5) u v) v v1) u v1 := by
  have I' := i_up I
  obtain ⟨P, mode, fl, co, ex, ne, ma, sc, ta, lo, ne', mr, di, rfl, rfl, hP, hm, hR⟩ := I
  unfold wpX_coefficient wpY_coefficient
  dsimp only
  refine rr_X (bI_br _ (fun h => ?_) (fun h => ?_))
  · exact rr_Y (by rw [h]; exact br_t rfl ⟨rfl, I'⟩)
  · obtain ⟨j, hj, rfl⟩ := rb_of h
    exact ⟨sI_in hj (by omega), rY_1 hj (br_f n1_0 ⟨sI_in hj (by omega), rfl, I'⟩)⟩
theorem i_vc_exponent {k : Nat} {u : SX} {v : SY} (I : i_Rel k u v) (hk : k + 5 ≤ 2561) (v1 : Int32) : wpX_exponent (fun r => wpY_exponent (fun r' => r' = r ∧ i_Rel (k + 5) u v) v v1) u v1 := by
  have I' := i_up I
  obtain ⟨P, mode, fl, co, ex, ne, ma, sc, ta, lo, ne', mr, di, rfl, rfl, hP, hm, hR⟩ := I
  unfold wpX_exponent wpY_exponent
  dsimp only
  refine rr_X (bI_br _ (fun h => ?_) (fun h => ?_))
  · exact rr_Y (by rw [h]; exact br_t rfl ⟨rfl, I'⟩)
  · obtain ⟨j, hj, rfl⟩ := rb_of h
    exact ⟨sI_in hj (by omega), rY_1 hj (br_f n1_0 ⟨sI_in hj (by omega), rfl, I'⟩)⟩
theorem sY_ok {post : Int32 → SY → Prop} {r c e mo fl lo ne mr : Int32} {co ex di : Nat → Int32} {P j : Nat} {z p : Int} (hr : r = sI_ (j : Int)) (hj : j < 6) (he : e = sI_ p) (hp : -20 ≤ p ∧ p ≤ 20) (hc : c = sI_ z) (hz : -2147483648 ≤ z ∧ z < 2147483648) (hP : 3 ≤ P ∧ P ≤ 7)
    (h1 : z.natAbs < 10 ^ P → post 1 (sI_ (P : Int), mo, fl, lo, ne, mr, upd co j (sI_ z), upd ex j (sI_ p), di)) (h0 : ¬ z.natAbs < 10 ^ P → post 0 (sI_ (P : Int), mo, fl, lo, ne, mr, co, ex, di)) :
    wpY_set post (sI_ (P : Int), mo, fl, lo, ne, mr, co, ex, di) r c e := by
  subst hr he hc
  unfold wpY_set
  dsimp only
  refine rY_1 hj (br_f n1_0 (sI_bLt p (-20) (fun hh => by omega) (fun _ => sI_bLt 20 p (fun hh => by omega) (fun _ => yk_dig z P (sI_l (by omega) (by omega)) (by omega) (by omega) (fun x hx => yk_if hx (fun q => ⟨sI_in hj (by omega), nm_e ⟨sI_in hj (by omega), nm_e (by rw [sI_cl (by omega)]; exact h1 q)⟩⟩) (fun q => h0 q))))))
theorem i_vc_set {k : Nat} {u : SX} {v : SY} (I : i_Rel k u v) (hk : k + 5 ≤ 2561) (v1 : Int32) (v2 : Int32) (v3 : Int32) : wpX_set (fun r u' => wpY_set (fun r' v' => r' = r ∧ i_Rel (k + 5) u' v') v v1 v2 v3) u v1 v2 v3 := by
  have I' := i_up I
  obtain ⟨P, mode, fl, co, ex, ne, ma, sc, ta, lo, ne', mr, di, rfl, rfl, hP, hm, hR⟩ := I
  have hp := yf_p hP
  have b1 := Int32.toInt_lt v2
  have b2 := Int32.le_toInt v2
  have e0 := sI_self v2
  generalize v2.toInt = z at *
  subst e0
  unfold wpX_set
  dsimp only
  refine rr_X (bI_br _ (fun h => ?_) (fun h => re_X (bI_br _ (fun h2 => ?_) (fun h2 => ?_))))
  · unfold wpY_set
    dsimp only
    exact rr_Y (by rw [h]; exact br_t rfl ⟨rfl, I'⟩)
  · obtain ⟨j, hj, rfl⟩ := rb_of h
    unfold wpY_set
    dsimp only
    have g1 := Int32.toInt_lt v3
    have g2 := Int32.le_toInt v3
    have g3 := of_decide_eq_false h2
    have g0 := sI_self v3
    generalize v3.toInt = p at *
    subst g0
    exact rY_1 hj (br_f n1_0 (sI_bLt p (-20) (fun _ => ⟨rfl, I'⟩) (fun _ => sI_bLt 20 p (fun _ => ⟨rfl, I'⟩) (fun _ => by omega))))
  · obtain ⟨j, hj, rfl⟩ := rb_of h
    obtain ⟨p, hp2, rfl⟩ := eb_of h2
    have ez : (sI_ z).toInt64 = sL_ z := sI_l (by omega) (by omega)
    have bad : ¬ z.natAbs < 10 ^ P → wpY_set (fun r' v' => r' = 0 ∧ i_Rel (k + 5) (sL_ ((10 ^ P : Nat) : Int), sI_ (mode : Int), fl, ne, ma, sc, ta, co, ex) v') (sI_ (P : Int), sI_ (mode : Int), fl, lo, ne', mr, co, ex, di) (sI_ (j : Int)) (sI_ z) (sI_ p) :=
      fun q => sY_ok rfl hj rfl hp2 rfl (by omega) hP (fun q2 => absurd q2 q) (fun _ => ⟨rfl, I'⟩)
    refine sL_bLe ((10 ^ P : Nat) : Int) z (fun q => bad (by omega)) (fun q => sL_bLt (-((10 ^ P : Nat) : Int)) z (fun q2 => ⟨sI_in hj (by omega), nm_e ⟨sI_in hj (by omega), nm_e ?_⟩⟩) (fun q2 => bad (by omega)) (sL_neg _) ez) rfl ez
    rw [sI_cl (by omega)]
    refine sY_ok rfl hj rfl hp2 rfl (by omega) hP (fun q3 => ⟨rfl, ?_⟩) (fun q3 => by omega)
    exact ⟨P, mode, fl, _, _, ne, ma, sc, ta, lo, ne', mr, di, rfl, rfl, hP, hm, RG_set hR (by omega) (by omega) hp2⟩
