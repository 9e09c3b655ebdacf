/-- from the reference's whole number M to the number m = M / 10^j that the unit holds -/
theorem mm_e {R l u H : Nat} (hl : l < u) :
    (2 * H * u < 2 * (R * u + l) ↔ (2 * H < 2 * R ∨ (2 * R = 2 * H ∧ l ≠ 0))) ∧ (2 * (R * u + l) = 2 * H * u ↔ (2 * R = 2 * H ∧ l = 0)) ∧ (R * u + l = 0 ↔ (R = 0 ∧ l = 0)) := by
  have e : 2 * H * u = 2 * (H * u) := by rw [Nat.mul_assoc]
  rw [e]
  have z : R * u + l = 0 ↔ (R = 0 ∧ l = 0) := by
    constructor
    · intro h
      have h1 : R * u = 0 := by omega
      rcases Nat.mul_eq_zero.1 h1 with h2 | h2
      · exact ⟨h2, by omega⟩
      · omega
    · intro h
      rw [h.1, h.2, Nat.zero_mul]
  refine ⟨?_, ?_, z⟩
  · rcases Nat.lt_trichotomy H R with c | c | c
    · have := Nat.mul_le_mul_right u (show H + 1 ≤ R from c)
      rw [Nat.add_mul, Nat.one_mul] at this
      constructor <;> intro <;> omega
    · subst c
      constructor <;> intro <;> omega
    · have := Nat.mul_le_mul_right u (show R + 1 ≤ H from c)
      rw [Nat.add_mul, Nat.one_mul] at this
      constructor <;> intro <;> omega
  · rcases Nat.lt_trichotomy H R with c | c | c
    · have := Nat.mul_le_mul_right u (show H + 1 ≤ R from c)
      rw [Nat.add_mul, Nat.one_mul] at this
      constructor <;> intro <;> omega
    · subst c
      constructor <;> intro <;> omega
    · have := Nat.mul_le_mul_right u (show R + 1 ≤ H from c)
      rw [Nat.add_mul, Nat.one_mul] at this
      constructor <;> intro <;> omega
theorem mm_ru {R l u H : Nat} (mode : Nat) (neg : Bool) (q : Nat) (more : Bool) (hl : l < u) :
    ru_ mode neg q (R * u + l) (2 * H * u) more = ru_ mode neg q R (2 * H) (more || decide (l ≠ 0)) := by
  obtain ⟨e1, e2, e0⟩ := mm_e (R := R) (H := H) hl
  have e3 : 2 * H * u ≤ 2 * (R * u + l) ↔ 2 * H ≤ 2 * R := by
    rw [show 2 * H * u ≤ 2 * (R * u + l) ↔ (2 * H * u < 2 * (R * u + l) ∨ 2 * (R * u + l) = 2 * H * u) from by omega, e1, e2]
    omega
  unfold ru_
  by_cases z : R * u + l = 0 ∧ more = false
  · rw [if_pos z, if_pos]
    have := e0.1 z.1
    refine ⟨this.1, ?_⟩
    rw [z.2, this.2]; rfl
  · have z2 : ¬ (R = 0 ∧ (more || decide (l ≠ 0)) = false) := by
      intro c
      rw [Bool.or_eq_false_iff, decide_eq_false_iff_not, Decidable.not_not] at c
      exact z ⟨e0.2 ⟨c.1, c.2.2⟩, c.2.1⟩
    rw [if_neg z, if_neg z2]
    have k1 : (2 * H * u < 2 * (R * u + l) ∨ (2 * (R * u + l) = 2 * H * u ∧ (more = true ∨ q % 2 = 1))) ↔ (2 * H < 2 * R ∨ (2 * R = 2 * H ∧ ((more || decide (l ≠ 0)) = true ∨ q % 2 = 1))) := by
      rw [e1, e2, Bool.or_eq_true, decide_eq_true_eq]
      cases more <;> simp <;> omega
    have k2 : (2 * H * u < 2 * (R * u + l) ∨ (2 * (R * u + l) = 2 * H * u ∧ more = true)) ↔ (2 * H < 2 * R ∨ (2 * R = 2 * H ∧ ((more || decide (l ≠ 0)) = true))) := by
      rw [e1, e2, Bool.or_eq_true, decide_eq_true_eq]
      cases more <;> simp <;> omega
    rw [decide_eq_decide.2 k1, decide_eq_decide.2 k2, decide_eq_decide.2 e3]
theorem mm_rq (mode : Nat) (neg : Bool) (M j K : Nat) (more : Bool) (hK : 1 ≤ K) :
    rq_ mode neg M (K + j) more = rq_ mode neg (M / 10 ^ j) K (more || decide (M % 10 ^ j ≠ 0)) := by
  obtain ⟨i, rfl⟩ : ∃ i, K = i + 1 := ⟨K - 1, by omega⟩
  have e1 : M / 10 ^ (i + 1 + j) = M / 10 ^ j / 10 ^ (i + 1) := by
    rw [Nat.div_div_eq_div_mul, ← Nat.pow_add, Nat.add_comm j]
  have e2 : M % 10 ^ (i + 1 + j) = M / 10 ^ j % 10 ^ (i + 1) * 10 ^ j + M % 10 ^ j := by
    rw [Nat.add_comm (i + 1) j, Nat.pow_add, Nat.mod_mul, Nat.mul_comm]; omega
  have e3 : 10 ^ (i + 1 + j) = 2 * (5 * 10 ^ i) * 10 ^ j := by
    rw [Nat.pow_add, Nat.pow_succ]; grind
  have e4 : 10 ^ (i + 1) = 2 * (5 * 10 ^ i) := by
    rw [Nat.pow_succ]; grind
  have e5 := mm_ru (R := M / 10 ^ j % 10 ^ (i + 1)) (H := 5 * 10 ^ i) mode neg (M / 10 ^ j / 10 ^ (i + 1)) more (Nat.mod_lt M (tn_ j))
  rw [← e3, ← e2, ← e4] at e5
  unfold rq_
  rw [e1, e5]
theorem mm_dvd {M b k : Nat} (h : M % 10 ^ b = 0) (hk : k ≤ b) : M % 10 ^ k = 0 := by
  obtain ⟨x, hx⟩ := Nat.dvd_of_mod_eq_zero h
  rw [hx, show b = k + (b - k) from by omega, Nat.pow_add, Nat.mul_assoc]
  exact Nat.mul_mod_right _ _
theorem mm_c {M b k : Nat} (h : M % 10 ^ b = 0) (hk : k ≤ b) : M / 10 ^ b * 10 ^ (b - k) = M / 10 ^ k := by
  obtain ⟨x, hx⟩ := Nat.dvd_of_mod_eq_zero h
  rw [hx, Nat.mul_div_cancel_left _ (tn_ b)]
  conv => rhs; rw [show b = k + (b - k) from by omega, Nat.pow_add, Nat.mul_assoc, Nat.mul_div_cancel_left _ (tn_ k)]
  rw [Nat.mul_comm]
theorem mm_t {M t a : Nat} (h1 : 10 ^ t ≤ M) (h2 : M < 10 ^ (t + 1)) (h3 : 10 ^ a ≤ M) (h4 : M < 10 ^ (a + 1)) : t = a := by
  have := dd_rv (a := t) (b := a + 1) (by omega)
  have := dd_rv (a := a) (b := t + 1) (by omega)
  omega
theorem mm_rq0 (mode : Nat) (neg : Bool) (m K : Nat) (h : m % 10 ^ K = 0) : rq_ mode neg m K false = m / 10 ^ K := by
  have e : ru_ mode neg (m / 10 ^ K) (m % 10 ^ K) (10 ^ K) false = false := by
    unfold ru_; rw [if_pos ⟨h, rfl⟩]
  unfold rq_
  rw [e, if_neg (by decide)]
theorem mm_fin {P mode : Nat} {neg : Bool} {M : Nat} {low : Int} {more : Bool} {w : Int} {c : Nat} {e : Int} {f : Int32} {m j K : Nat} {tail : Bool} {s : Int}
    (hP : 3 ≤ P ∧ P ≤ 7) (hm : M / 10 ^ j = m) (hm0 : m ≠ 0) (ht : tail = (more || decide (M % 10 ^ j ≠ 0))) (hs : s = low + j)
    (hK1 : m / 10 ^ K < 10 ^ P) (hK2 : K = 0 ∨ 10 ^ P ≤ m / 10 ^ (K - 1)) (htl : tail = true → 10 ^ P ≤ m)
    (hw : tail = false → (w ≤ s ∧ (m < 10 ^ P → s = w)) ∨ (s < w ∧ m % 10 ≠ 0))
    (h : fin_ P mode neg M low more w c e f) :
    c = rc_ P (rq_ mode neg m K tail) ∧ e = s + K + re_ P (rq_ mode neg m K tail) ∧
    f = (if m % 10 ^ K ≠ 0 ∨ tail = true then 3 else if w < s + K + re_ P (rq_ mode neg m K tail) then 2 else 0) := by
  have hM : M = m * 10 ^ j + M % 10 ^ j := by
    rw [← hm, Nat.mul_comm]; exact (Nat.div_add_mod M (10 ^ j)).symm
  have hl : M % 10 ^ j < 10 ^ j := Nat.mod_lt _ (tn_ j)
  have hMs : M % 10 ^ (K + j) = m % 10 ^ K * 10 ^ j + M % 10 ^ j := by
    rw [Nat.add_comm K j, Nat.pow_add, Nat.mod_mul, hm, Nat.mul_comm]; omega
  have hMd : M / 10 ^ (K + j) = m / 10 ^ K := by
    rw [← hm, Nat.div_div_eq_div_mul, ← Nat.pow_add, Nat.add_comm j]
  -- where the top digit of M is
  have hup : M < 10 ^ (P + K + j) := by
    have a1 : m < 10 ^ (P + K) := by
      have := (Nat.div_lt_iff_lt_mul (tn_ K)).1 hK1
      rw [Nat.pow_add]; exact this
    have a2 := Nat.mul_le_mul_right (10 ^ j) (show m + 1 ≤ 10 ^ (P + K) from a1)
    rw [Nat.add_mul, Nat.one_mul, ← Nat.pow_add] at a2
    omega
  have hlow : 1 ≤ K → 10 ^ (P + K + j - 1) ≤ M := by
    intro k1
    have b1 : 10 ^ P ≤ m / 10 ^ (K - 1) := by
      rcases hK2 with hK2 | hK2
      · omega
      · exact hK2
    have b2 := (Nat.le_div_iff_mul_le (tn_ (K - 1))).1 b1
    have b3 := Nat.mul_le_mul_right (10 ^ j) b2
    rw [← Nat.pow_add, ← Nat.pow_add, show P + (K - 1) + j = P + K + j - 1 from by omega] at b3
    omega
  rcases h with h | h | h
  · obtain ⟨z, -⟩ := h
    subst z
    rw [Nat.zero_div] at hm
    exact absurd hm.symm hm0
  · obtain ⟨t, b, g1, g2, g3, g4, g5, g6, g7, ge, gc, gf⟩ := h
    have htk : 1 ≤ K → t = P + K + j - 1 := fun k1 => mm_t g1 g2 (hlow k1) (by rw [show P + K + j - 1 + 1 = P + K + j from by omega]; exact hup)
    have hjb : j ≤ b ∧ K + j ≤ b := by
      by_cases k1 : 1 ≤ K
      · have := htk k1; omega
      · have k0 : K = 0 := by omega
        subst k0
        rw [Nat.pow_zero, Nat.div_one] at hK1
        have tf : tail = false := by
          cases tail
          · rfl
          · have := htl rfl; omega
        rw [tf] at ht
        have ht2 := (Bool.or_eq_false_iff.1 ht.symm).2
        rw [decide_eq_false_iff_not, Decidable.not_not] at ht2
        by_cases c1 : j ≤ b
        · omega
        · exact absurd (mm_dvd ht2 (by omega)) g4
    have ml : M % 10 ^ j = 0 := mm_dvd g3 hjb.1
    have mk : M % 10 ^ (K + j) = 0 := mm_dvd g3 hjb.2
    have tf : tail = false := by rw [ht, g6, ml]; rfl
    have mk2 : m % 10 ^ K = 0 := by
      rw [ml, Nat.add_zero, mk] at hMs
      rcases Nat.mul_eq_zero.1 hMs.symm with c1 | c1
      · exact c1
      · have := tn_ j; omega
    subst tf
    have hr : rq_ mode neg m K false = m / 10 ^ K := mm_rq0 mode neg m K mk2
    have hrc : rc_ P (m / 10 ^ K) = m / 10 ^ K := by unfold rc_; rw [if_neg (by omega)]
    have hre : re_ P (m / 10 ^ K) = 0 := by unfold re_; rw [if_neg (by omega)]
    rw [hr, hrc, hre, Int.add_zero]
    have he : e = s + K := by
      rw [ge]
      by_cases k1 : 1 ≤ K
      · have t1 := htk k1
        have : w < low + t + 1 - P := by
          rcases hw rfl with c1 | c1
          · omega
          · have : m % 10 ^ 1 = 0 := mm_dvd mk2 k1
            rw [Nat.pow_one] at this
            exact absurd this c1.2
        rw [if_pos this]
        omega
      · have k0 : K = 0 := by omega
        subst k0
        rw [Nat.pow_zero, Nat.div_one] at hK1
        have t1 : t < P + 0 + j := dd_rv (by omega)
        rcases hw rfl with c1 | c1
        · have := c1.2 hK1
          rw [if_neg (by omega), if_neg (by omega)]
          omega
        · have b1 : b = j := by
            by_cases c2 : j + 1 ≤ b
            · have := mm_dvd g3 c2
              rw [Nat.add_comm j 1, Nat.add_comm 1 j, Nat.pow_succ, Nat.mod_mul, hm, ml] at this
              have c3 : 10 ^ j * (m % 10) = 0 := by omega
              rcases Nat.mul_eq_zero.1 c3 with c4 | c4
              · have := tn_ j; omega
              · exact absurd c4 c1.2
            · omega
          rw [if_neg (by omega), if_pos (by omega)]
          omega
    refine ⟨?_, he, ?_⟩
    · rw [gc, he, show (low + b - (s + K)).toNat = b - (K + j) from by omega, mm_c g3 hjb.2, hMd]
    · have nn : ¬ (m % 10 ^ K ≠ 0 ∨ (false : Bool) = true) := by rw [mk2]; simp
      rw [gf, he, if_neg nn]
  · obtain ⟨t, g1, g2, g3, g4, gc, ge, gf⟩ := h
    have k1 : 1 ≤ K := by
      by_cases k1 : 1 ≤ K
      · exact k1
      · have k0 : K = 0 := by omega
        subst k0
        rw [Nat.pow_zero, Nat.div_one] at hK1
        have tf : tail = false := by
          cases tail
          · rfl
          · have := htl rfl; omega
        rw [tf] at ht
        have ht2 := Bool.or_eq_false_iff.1 ht.symm
        rw [decide_eq_false_iff_not, Decidable.not_not] at ht2
        have t1 : t < P + 0 + j := dd_rv (by omega)
        rcases g4 with g4 | g4
        · rw [ht2.1] at g4; exact absurd g4 (by decide)
        · exact absurd (mm_dvd ht2.2 (by omega)) g4
    have t1 : t = P + K + j - 1 := mm_t g1 g2 (hlow k1) (by rw [show P + K + j - 1 + 1 = P + K + j from by omega]; exact hup)
    have t2 : t + 1 - P = K + j := by omega
    rw [t2] at g4 gc ge
    have hr := mm_rq mode neg M j K more k1
    rw [hm, ← ht] at hr
    rw [hr] at gc ge
    refine ⟨gc, by omega, ?_⟩
    rw [gf, if_pos]
    by_cases z : m % 10 ^ K = 0
    · right
      rw [ht]
      rcases g4 with g4 | g4
      · rw [g4]; rfl
      · rw [hMs, z, Nat.zero_mul, Nat.zero_add] at g4
        rw [decide_eq_true g4, Bool.or_true]
    · exact Or.inl z
