/-- X: sums -/
theorem xs_dm {T a r U : Nat} (h : T = a * U + r) (hr : r < U) : T / U = a ∧ T % U = r := by
  subst h
  refine ⟨?_, ?_⟩
  · rw [Nat.add_comm, Nat.add_mul_div_right _ _ (by omega), Nat.div_eq_of_lt hr]; omega
  · rw [Nat.add_comm, Nat.add_mul_mod_self_right, Nat.mod_eq_of_lt hr]
theorem xs_1 {T t B : Int} {U : Nat} (a r : Nat) (e : Int) (hT : T = e * ((a * U + r : Nat) : Int)) (he : e = 1 ∨ e = -1) : T.natAbs = a * U + r := by
  rcases he with he | he
  · subst he; omega
  · subst he; omega
theorem xs_pure {T t B : Int} {U : Nat} (hT : T = t * U + B) (hB : -(U : Int) < B ∧ B < U) (h2 : B ≠ 0 → 2 ≤ t.natAbs) (u : Int) (hu : u = if 0 < B ∧ t < 0 then t + 1 else if B < 0 ∧ 0 < t then t - 1 else t) :
    T.natAbs / U = u.natAbs ∧ (T.natAbs % U ≠ 0 ↔ B ≠ 0) ∧ (T < 0 ↔ u < 0) := by
  have key : ∀ (r : Nat) (e : Int), (e = 1 ∨ e = -1) → T = e * ((u.natAbs : Int) * U + r) → r < U → (r ≠ 0 ↔ B ≠ 0) → T.natAbs / U = u.natAbs ∧ (T.natAbs % U ≠ 0 ↔ B ≠ 0) := by
    intro r e he h3 h4 h5
    have : T.natAbs = u.natAbs * U + r := by
      have h6 : ((u.natAbs * U + r : Nat) : Int) = (u.natAbs : Int) * U + r := by rw [Int.natCast_add, Int.natCast_mul]
      rw [← h6] at h3
      rcases he with he | he
      · subst he; omega
      · subst he; omega
    have := xs_dm this h4
    rw [this.1, this.2]
    exact ⟨rfl, h5⟩
  by_cases c1 : 0 < B ∧ t < 0
  · rw [if_pos c1] at hu
    have := h2 (by omega)
    have e1 : (u.natAbs : Int) = -(t + 1) := by omega
    have k := key (U - B.toNat) (-1) (Or.inr rfl) (by rw [e1, hT, show ((U - B.toNat : Nat) : Int) = U - B from by omega]; grind) (by omega) (by omega)
    refine ⟨k.1, k.2, ?_⟩
    have m1 : t * (U : Int) ≤ (-1) * U := Int.mul_le_mul_of_nonneg_right (by omega) (by omega)
    constructor <;> intro <;> omega
  · rw [if_neg c1] at hu
    by_cases c2 : B < 0 ∧ 0 < t
    · rw [if_pos c2] at hu
      have := h2 (by omega)
      have e1 : (u.natAbs : Int) = t - 1 := by omega
      have k := key (U - (-B).toNat) 1 (Or.inl rfl) (by rw [e1, hT, show ((U - (-B).toNat : Nat) : Int) = U + B from by omega]; grind) (by omega) (by omega)
      refine ⟨k.1, k.2, ?_⟩
      have m1 : 1 * (U : Int) ≤ t * U := Int.mul_le_mul_of_nonneg_right (by omega) (by omega)
      constructor <;> intro <;> omega
    · rw [if_neg c2] at hu
      subst hu
      by_cases c3 : 0 ≤ u
      · have e1 : (u.natAbs : Int) = u := by omega
        have b0 : 0 ≤ B := by
          by_cases b : B < 0
          · have := h2 (by omega); omega
          · omega
        have k := key B.toNat 1 (Or.inl rfl) (by rw [e1, hT, show ((B.toNat : Nat) : Int) = B from by omega]; grind) (by omega) (by omega)
        refine ⟨k.1, k.2, ?_⟩
        have m1 : 0 ≤ u * (U : Int) := Int.mul_nonneg c3 (by omega)
        constructor <;> intro <;> omega
      · have e1 : (u.natAbs : Int) = -u := by omega
        have b0 : B ≤ 0 := by omega
        have k := key (-B).toNat (-1) (Or.inr rfl) (by rw [e1, hT, show (((-B).toNat : Nat) : Int) = -B from by omega]; grind) (by omega) (by omega)
        refine ⟨k.1, k.2, ?_⟩
        have m1 : u * (U : Int) ≤ (-1) * U := Int.mul_le_mul_of_nonneg_right (by omega) (by omega)
        constructor <;> intro <;> omega
theorem xs_109 {post : SX → Prop} {li ma : Int64} {ro ra ne sc ta : Int32} {co ex : Nat → Int32} (e u B : Int) (f : Nat) (hu : -9000000000000000000 < u ∧ u < 9000000000000000000) (hB : -9000000000000000000 < B ∧ B < 9000000000000000000)
    (h : post (li, ro, ra, bI_ (decide (u < 0)), sL_ (u.natAbs : Int), sI_ (e + f), bI_ (decide (B ≠ 0)), co, ex)) :
    wX_holdOrderedSum_109 post (sI_ e) (sI_ (f : Int)) (sL_ u) (sL_ B) li ro ra ne ma sc ta co ex := by
  unfold wX_holdOrderedSum_109
  rw [sI_add]
  refine xa_hold u (by omega) (sL_bEq B 0 (fun z => ?_) (fun z => ?_))
  · rw [decide_eq_false (show ¬ B ≠ 0 from by omega)] at h
    exact h
  · rw [decide_eq_true (show B ≠ 0 from z)] at h
    exact h
theorem xs_44 {post : SX → Prop} {li ma : Int64} {ro ra ne sc ta : Int32} {co ex : Nat → Int32} (e l wide T : Int) (f : Nat) (hl : l.natAbs < 10 ^ 15) (hw : wide.natAbs < 10 ^ 18) (hf : f < 1000) (hT : wide * 10 ^ f + l = T) (hx : f = 0 ∨ 10 ^ 17 ≤ wide.natAbs)
    (h : (f = 0 ∨ 10 ^ 7 ≤ T.natAbs / 10 ^ f) → T.natAbs / 10 ^ f < 9 * 10 ^ 18 → post (li, ro, ra, bI_ (decide (T < 0)), sL_ ((T.natAbs / 10 ^ f : Nat) : Int), sI_ (e + f), bI_ (decide (T.natAbs % 10 ^ f ≠ 0)), co, ex)) :
    wX_holdOrderedSum_44 post (sL_ l) (sI_ e) (sL_ wide) (sI_ (f : Int)) li ro ra ne ma sc ta co ex := by
  obtain ⟨N, hN⟩ : ∃ N, (N = f ∧ f ≤ 18) ∨ (N = 18 ∧ 18 ≤ f) := by
    by_cases c : f ≤ 18
    · exact ⟨f, Or.inl ⟨rfl, c⟩⟩
    · exact ⟨18, Or.inr ⟨rfl, by omega⟩⟩
  have hp : 10 ^ N ≤ 10 ^ 18 := dd_le (by omega)
  have ht := tn_ N
  have hd1 : l = l.tdiv (10 ^ N : Nat) * (10 ^ f : Nat) + l.tmod (10 ^ N : Nat) := by
    rcases hN with c | c
    · rw [c.1]; exact (Int.tdiv_mul_add_tmod l _).symm
    · have z : l.tdiv (10 ^ N : Nat) = 0 := by
        have a1 : (l.tdiv (10 ^ N : Nat)).natAbs = 0 := by
          rw [Int.natAbs_tdiv, Int.natAbs_natCast]
          exact Nat.div_eq_of_lt (by rw [c.1]; omega)
        omega
      have := Int.tdiv_mul_add_tmod l (10 ^ N : Nat)
      rw [z] at this ⊢
      omega
  have hb1 : (l.tmod (10 ^ N : Nat)).natAbs < 10 ^ N ∧ (l.tmod (10 ^ N : Nat)).natAbs ≤ l.natAbs := by
    rw [Int.natAbs_tmod, Int.natAbs_natCast]
    exact ⟨Nat.mod_lt _ ht, Nat.mod_le _ _⟩
  have hb2 : 10 ^ N ≤ 10 ^ f := dd_le (by omega)
  have hD := sI_tdR l (10 ^ N : Nat)
  have hB0 : f = 0 → l.tmod (10 ^ N : Nat) = 0 := by
    intro z
    have : N = 0 := by omega
    subst this
    have := hb1.1
    omega
  unfold wX_holdOrderedSum_44
  refine xa_pow f N (by omega) hN ?_
  generalize 10 ^ N = U at *
  have hu0 : ¬ sL_ (U : Int) = 0 := sL_n0 (by omega) (by omega)
  have e1 : sL_ l / sL_ (U : Int) = sL_ (l.tdiv U) := sL_div (by omega) (by omega)
  have e2 : sL_ l - sL_ l / sL_ (U : Int) * sL_ (U : Int) = sL_ (l.tmod U) := sL_rem (by omega) (by omega)
  refine ⟨hu0, nm_r (e' := sL_ (wide + l.tdiv U)) (by rw [e1, sL_add]) ⟨hu0, nm_r e2 ?_⟩⟩
  generalize l.tdiv U = D at *
  generalize l.tmod U = B at *
  generalize ht0 : wide + D = t at *
  have hTt : T = t * ((10 ^ f : Nat) : Int) + B := by
    rw [← hT, ← ht0, tc_ f]
    rw [tc_ f] at hd1
    grind
  have hB2 : B ≠ 0 → 2 ≤ t.natAbs := by
    intro z
    rcases hx with hx | hx
    · exact absurd (hB0 hx) z
    · omega
  have pure := fun u hu => xs_pure (U := 10 ^ f) hTt (by omega) hB2 u hu
  have fin : ∀ u : Int, u = (if 0 < B ∧ t < 0 then t + 1 else if B < 0 ∧ 0 < t then t - 1 else t) → wX_holdOrderedSum_109 post (sI_ e) (sI_ (f : Int)) (sL_ u) (sL_ B) li ro ra ne ma sc ta co ex := by
    intro u hu
    have hq := pure u hu
    have hub : t - 1 ≤ u ∧ u ≤ t + 1 := by
      rw [hu]
      by_cases c1 : 0 < B ∧ t < 0
      · rw [if_pos c1]; omega
      · rw [if_neg c1]
        by_cases c2 : B < 0 ∧ 0 < t
        · rw [if_pos c2]; omega
        · rw [if_neg c2]; omega
    rw [hq.1] at h
    have k := h (by rcases hx with hx | hx
                    · exact Or.inl hx
                    · right; omega) (by omega)
    refine xs_109 e u B f (by omega) (by omega) ?_
    rw [decide_eq_decide.2 hq.2.1, decide_eq_decide.2 hq.2.2] at k
    exact k
  refine sL_bLe B 0 (fun z => ?_) (fun z => sL_bLe 0 t (fun z2 => ?_) (fun z2 => nm_r (sL_add t 1) (fin _ ?_)))
  · refine sL_bLe 0 B (fun z2 => fin _ ?_) (fun z2 => sL_bLe t 0 (fun z3 => fin _ ?_) (fun z3 => nm_r (sL_sub t 1) (fin _ ?_)))
    · rw [if_neg (by omega), if_neg (by omega)]
    · rw [if_neg (by omega), if_neg (by omega)]
    · rw [if_neg (by omega), if_pos (by omega)]
  · refine sL_bLe 0 B (fun z3 => fin _ ?_) (fun z3 => by omega)
    rw [if_neg (by omega), if_neg (by omega)]
  · rw [if_pos (by omega)]
theorem xs_7 (post : SX → Prop) (li ma : Int64) (ro ra ne sc ta : Int32) (co ex : Nat → Int32) (e l T : Int) (g : Nat) (hg : g < 1000)
    (h : ∀ (wide : Int) (f : Nat), f ≤ g → wide.natAbs < 10 ^ 18 → wide * 10 ^ f + l = T → (f = 0 ∨ 10 ^ 17 ≤ wide.natAbs) → wX_holdOrderedSum_44 post (sL_ l) (sI_ e) (sL_ wide) (sI_ (f : Int)) li ro ra ne ma sc ta co ex) :
    ∀ (f : Nat) (wide : Int), f ≤ g → wide.natAbs < 10 ^ 18 → wide * 10 ^ f + l = T → wX_holdOrderedSum_7 post (sL_ l) (sI_ e) li ro ra ne ma sc ta co ex (f + 1) (sL_ wide) (sI_ (f : Int)) := by
  intro f
  induction f with
  | zero =>
    intro wide h1 h2 h3
    exact sI_bLe ((0 : Nat) : Int) 0 (fun _ => h wide 0 h1 h2 h3 (Or.inl rfl)) (fun hh => by omega)
  | succ f ih =>
    intro wide h1 h2 h3
    refine sI_bLe ((f + 1 : Nat) : Int) 0 (fun hh => by omega) (fun _ => sL_bLe 100000000000000000 wide (fun z => h wide (f + 1) h1 h2 h3 (Or.inr (by omega))) (fun z => sL_bLe wide (-100000000000000000) (fun z2 => h wide (f + 1) h1 h2 h3 (Or.inr (by omega))) (fun z2 => nm_r (sL_mul wide 10) (nm_r (sI_m1 ((f + 1 : Nat) : Int)) ?_))))
    have k := ih (wide * 10) (by omega) (by omega) (by rw [← h3, Int.pow_succ]; grind)
    rw [show ((f + 1 : Nat) : Int) - 1 = (f : Int) from by omega]
    exact k
theorem xs_ord {post : SX → Prop} {li ma : Int64} {ro ra ne sc ta : Int32} {co ex : Nat → Int32} (x l e T : Int) (g : Nat) (hx : x.natAbs < 10 ^ 15) (hl : l.natAbs < 10 ^ 15) (hg : g < 1000) (hT : x * 10 ^ g + l = T)
    (h : ∀ f : Nat, f ≤ g → (f = 0 ∨ 10 ^ 7 ≤ T.natAbs / 10 ^ f) → T.natAbs / 10 ^ f < 9 * 10 ^ 18 → post (li, ro, ra, bI_ (decide (T < 0)), sL_ ((T.natAbs / 10 ^ f : Nat) : Int), sI_ (e + f), bI_ (decide (T.natAbs % 10 ^ f ≠ 0)), co, ex)) :
    wpX_holdOrderedSum post (li, ro, ra, ne, ma, sc, ta, co, ex) (sL_ x) (sL_ l) (sI_ e) (sI_ (g : Int)) :=
  ⟨g + 1, xs_7 post li ma ro ra ne sc ta co ex e l T g hg (fun wide f hf hw h3 h4 => xs_44 e l wide T f hl hw (by omega) h3 h4 (h f hf)) g x (Nat.le_refl g) (by omega) hT⟩
theorem xs_sum {post : SX → Prop} {li ma : Int64} {ro ra ne sc ta : Int32} {co ex : Nat → Int32} (x y p q lo T : Int) (hx : x.natAbs < 10 ^ 15) (hy : y.natAbs < 10 ^ 15) (hp : -200 ≤ p ∧ p ≤ 200) (hq : -200 ≤ q ∧ q ≤ 200)
    (hlo : (p < q ∧ lo = p) ∨ (q ≤ p ∧ lo = q)) (hT : x * 10 ^ (p - lo).toNat + y * 10 ^ (q - lo).toNat = T)
    (h : ∀ f : Nat, f ≤ 400 → (f = 0 ∨ 10 ^ 7 ≤ T.natAbs / 10 ^ f) → T.natAbs / 10 ^ f < 9 * 10 ^ 18 → post (li, ro, ra, bI_ (decide (T < 0)), sL_ ((T.natAbs / 10 ^ f : Nat) : Int), sI_ (lo + f), bI_ (decide (T.natAbs % 10 ^ f ≠ 0)), co, ex)) :
    wpX_holdSum post (li, ro, ra, ne, ma, sc, ta, co, ex) (sL_ x) (sI_ p) (sL_ y) (sI_ q) := by
  refine sI_bLt p q (fun z => ?_) (fun z => ?_)
  · have e : lo = p := by omega
    subst e
    rw [Int.sub_self, Int.toNat_zero, Int.pow_zero, Int.mul_one] at hT
    rw [sI_sub, show q - lo = ((q - lo).toNat : Int) from by omega]
    exact xs_ord y x lo T (q - lo).toNat hy hx (by omega) (by rw [Int.add_comm]; exact hT) (fun f hf h1 h2 => h f (by omega) h1 h2)
  · have e : lo = q := by omega
    subst e
    rw [Int.sub_self, Int.toNat_zero, Int.pow_zero, Int.mul_one] at hT
    rw [sI_sub, show p - lo = ((p - lo).toNat : Int) from by omega]
    exact xs_ord x y lo T (p - lo).toNat hx hy (by omega) hT (fun f hf h1 h2 => h f (by omega) h1 h2)
