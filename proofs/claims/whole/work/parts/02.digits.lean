/-- the value of the first n cells, read as digits -/
def dv_ (d : Nat → Int32) : Nat → Int
  | 0 => 0
  | n + 1 => dv_ d n + (d n).toInt * 10 ^ n
theorem dv_s (d : Nat → Int32) (n : Nat) : dv_ d (n + 1) = dv_ d n + (d n).toInt * 10 ^ n := rfl
theorem dv_us (f : Nat → Int32) (k : Nat) (x : Int32) : upd f k x k = x := if_pos rfl
theorem dv_un (f : Nat → Int32) {k j : Nat} (x : Int32) (h : j ≠ k) : upd f k x j = f j := if_neg h
theorem dv_ext {d e : Nat → Int32} : ∀ {n : Nat}, (∀ i, i < n → d i = e i) → dv_ d n = dv_ e n
  | 0, _ => rfl
  | n + 1, h => by rw [dv_s, dv_s, dv_ext (fun i hi => h i (by omega)), h n (by omega)]
theorem dv_uge (d : Nat → Int32) {n k : Nat} (x : Int32) (h : n ≤ k) : dv_ (upd d k x) n = dv_ d n :=
  dv_ext fun i hi => dv_un d x (by omega)
theorem dv_ult (d : Nat → Int32) {k : Nat} (x : Int32) : ∀ {n : Nat}, k < n → dv_ (upd d k x) n = dv_ d n + (x.toInt - (d k).toInt) * 10 ^ k
  | 0, h => by omega
  | n + 1, h => by
    by_cases e : k = n
    · subst e
      rw [dv_s, dv_s, dv_uge d x (Nat.le_refl k), dv_us]
      grind
    · rw [dv_s, dv_s, dv_ult d x (n := n) (by omega), dv_un d x (by omega)]
      grind
theorem dv_0 {d : Nat → Int32} : ∀ {n : Nat}, (∀ i, i < n → d i = 0) → dv_ d n = 0
  | 0, _ => rfl
  | n + 1, h => by
    rw [dv_s, dv_0 (fun i hi => h i (by omega)), h n (by omega)]
    rw [Int32.toInt_zero]; omega
theorem tp_ (n : Nat) : (0 : Int) < 10 ^ n := Int.pow_pos (by decide)
theorem tn_ (n : Nat) : 0 < 10 ^ n := Nat.pow_pos (by decide)
theorem tc_ (n : Nat) : ((10 ^ n : Nat) : Int) = 10 ^ n := by rw [Int.natCast_pow]; rfl
theorem dv_rng {d : Nat → Int32} : ∀ {n : Nat}, (∀ i, i < n → 0 ≤ (d i).toInt ∧ (d i).toInt ≤ 9) → 0 ≤ dv_ d n ∧ dv_ d n < 10 ^ n
  | 0, _ => by rw [show dv_ d 0 = 0 from rfl]; omega
  | n + 1, h => by
    have ⟨a, b⟩ := dv_rng (n := n) (fun i hi => h i (by omega))
    have ⟨p, q⟩ := h n (by omega)
    have t := tp_ n
    rw [dv_s, Int.pow_succ]
    have u := Int.mul_le_mul_of_nonneg_right q (Int.le_of_lt t)
    have w := Int.mul_nonneg p (Int.le_of_lt t)
    generalize (d n).toInt * 10 ^ n = z at *
    generalize (10 : Int) ^ n = T at *
    omega
/-- digit i of a number -/
theorem dd_low {A D n i : Nat} (h : i < n) : (A + D * 10 ^ n) / 10 ^ i % 10 = A / 10 ^ i % 10 := by
  obtain ⟨m, rfl⟩ : ∃ m, n = i + (m + 1) := ⟨n - i - 1, by omega⟩
  have e : D * 10 ^ (i + (m + 1)) = 10 ^ i * (10 * (D * 10 ^ m)) := by grind
  rw [e, Nat.add_mul_div_left _ _ (tn_ i)]
  omega
theorem dd_top {A D n : Nat} (h : A < 10 ^ n) : (A + D * 10 ^ n) / 10 ^ n = D := by
  rw [Nat.add_mul_div_right _ _ (tn_ n), Nat.div_eq_of_lt h]; omega
theorem dv_dig {d : Nat → Int32} : ∀ {n : Nat} {M : Nat}, (∀ i, i < n → 0 ≤ (d i).toInt ∧ (d i).toInt ≤ 9) → dv_ d n = (M : Int) → ∀ i, i < n → (d i).toInt = ((M / 10 ^ i % 10 : Nat) : Int)
  | 0, _, _, _ => fun i hi => by omega
  | n + 1, M, h, hv => fun i hi => by
    have hh : ∀ i, i < n → 0 ≤ (d i).toInt ∧ (d i).toInt ≤ 9 := fun i hi => h i (by omega)
    have ⟨a, b⟩ := dv_rng hh
    have ⟨p, q⟩ := h n (by omega)
    obtain ⟨A, hA⟩ := Int.eq_ofNat_of_zero_le a
    obtain ⟨D, hD⟩ := Int.eq_ofNat_of_zero_le p
    have e : M = A + D * 10 ^ n := by
      rw [dv_s, hA, hD] at hv
      have := tc_ n
      rw [← this] at hv
      exact_mod_cast hv.symm
    have hA' : A < 10 ^ n := by
      rw [hA, ← tc_ n] at b
      exact_mod_cast b
    have hD' : D < 10 := by omega
    by_cases c : i = n
    · subst c
      rw [e, dd_top hA', hD, Nat.mod_eq_of_lt hD']
    · rw [e, dd_low (by omega)]
      exact dv_dig hh hA i (by omega)
/-- the cells hold the digits of M -/
def dg_ (d : Nat → Int32) (M : Nat) : Prop := ∀ i, i < 128 → d i = sI_ ((M / 10 ^ i % 10 : Nat) : Int)
theorem dg_of {d : Nat → Int32} {M : Nat} (h : ∀ i, i < 128 → 0 ≤ (d i).toInt ∧ (d i).toInt ≤ 9) (e : dv_ d 128 = (M : Int)) : dg_ d M := by
  intro i hi
  rw [← dv_dig h e i hi, sI_self]
theorem dd_s (M i : Nat) : M / 10 ^ i = M / 10 ^ (i + 1) * 10 + M / 10 ^ i % 10 := by
  rw [Nat.pow_succ, ← Nat.div_div_eq_div_mul]; omega
theorem dd_m (M i : Nat) : M % 10 ^ (i + 1) = M % 10 ^ i + 10 ^ i * (M / 10 ^ i % 10) := by
  rw [Nat.pow_succ, Nat.mod_mul]
theorem dd_le {a b : Nat} (h : a ≤ b) : 10 ^ a ≤ 10 ^ b := Nat.pow_le_pow_right (by decide) h
theorem dd_lt {a b : Nat} (h : a < b) : 10 ^ a < 10 ^ b := Nat.pow_lt_pow_right (by decide) h
theorem dd_rv {a b : Nat} (h : 10 ^ a < 10 ^ b) : a < b := by
  by_cases c : a < b
  · exact c
  · have := dd_le (a := b) (b := a) (by omega); omega
