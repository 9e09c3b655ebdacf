section
/-- signed numbers as the machine holds them -/
def sI_ (z : Int) : Int32 := Int32.ofInt z
def sL_ (z : Int) : Int64 := Int64.ofInt z
theorem sI_t {z : Int} (h1 : -2147483648 ≤ z) (h2 : z < 2147483648) : (sI_ z).toInt = z := Int32.toInt_ofInt_of_le (by omega) (by omega)
theorem sL_t {z : Int} (h1 : -9223372036854775808 ≤ z) (h2 : z < 9223372036854775808) : (sL_ z).toInt = z := Int64.toInt_ofInt_of_le (by omega) (by omega)
theorem sI_nat (n : Nat) : sI_ (n : Int) = nI n := Int32.ofInt_eq_ofNat
theorem sL_nat (n : Nat) : sL_ (n : Int) = lN n := Int64.ofInt_eq_ofNat
theorem sI_self (x : Int32) : sI_ x.toInt = x := Int32.ofInt_toInt x
theorem sL_self (x : Int64) : sL_ x.toInt = x := Int64.ofInt_toInt x
theorem sI_add (a b : Int) : sI_ a + sI_ b = sI_ (a + b) := (Int32.ofInt_add a b).symm
theorem sI_sub (a b : Int) : sI_ a - sI_ b = sI_ (a - b) := (Int32.ofInt_sub a b).symm
theorem sI_mul (a b : Int) : sI_ a * sI_ b = sI_ (a * b) := (Int32.ofInt_mul a b).symm
theorem sI_neg (a : Int) : -sI_ a = sI_ (-a) := (Int32.ofInt_neg a).symm
theorem sL_add (a b : Int) : sL_ a + sL_ b = sL_ (a + b) := (Int64.ofInt_add a b).symm
theorem sL_sub (a b : Int) : sL_ a - sL_ b = sL_ (a - b) := (Int64.ofInt_sub a b).symm
theorem sL_mul (a b : Int) : sL_ a * sL_ b = sL_ (a * b) := (Int64.ofInt_mul a b).symm
theorem sL_neg (a : Int) : -sL_ a = sL_ (-a) := (Int64.ofInt_neg a).symm
theorem sL_i (a : Int) : (sL_ a).toInt32 = sI_ a := Int64.toInt32_ofInt
theorem sI_l {a : Int} (h1 : -2147483648 ≤ a) (h2 : a < 2147483648) : (sI_ a).toInt64 = sL_ a := by
  apply Int64.toInt_inj.1
  rw [Int32.toInt_toInt64, sI_t h1 h2, sL_t (by omega) (by omega)]
theorem sI_tl (x : Int32) : x.toInt64 = sL_ x.toInt := (Int64.ofInt_int32ToInt x).symm
theorem sI_leI {a b : Int} (ha : -2147483648 ≤ a ∧ a < 2147483648) (hb : -2147483648 ≤ b ∧ b < 2147483648) : sI_ a ≤ sI_ b ↔ a ≤ b := by
  rw [Int32.le_iff_toInt_le, sI_t ha.1 ha.2, sI_t hb.1 hb.2]
theorem sI_ltI {a b : Int} (ha : -2147483648 ≤ a ∧ a < 2147483648) (hb : -2147483648 ≤ b ∧ b < 2147483648) : sI_ a < sI_ b ↔ a < b := by
  rw [Int32.lt_iff_toInt_lt, sI_t ha.1 ha.2, sI_t hb.1 hb.2]
theorem sI_eqI {a b : Int} (ha : -2147483648 ≤ a ∧ a < 2147483648) (hb : -2147483648 ≤ b ∧ b < 2147483648) : sI_ a = sI_ b ↔ a = b := by
  rw [← Int32.toInt_inj, sI_t ha.1 ha.2, sI_t hb.1 hb.2]
theorem sL_leI {a b : Int} (ha : -9223372036854775808 ≤ a ∧ a < 9223372036854775808) (hb : -9223372036854775808 ≤ b ∧ b < 9223372036854775808) : sL_ a ≤ sL_ b ↔ a ≤ b := by
  rw [Int64.le_iff_toInt_le, sL_t ha.1 ha.2, sL_t hb.1 hb.2]
theorem sL_ltI {a b : Int} (ha : -9223372036854775808 ≤ a ∧ a < 9223372036854775808) (hb : -9223372036854775808 ≤ b ∧ b < 9223372036854775808) : sL_ a < sL_ b ↔ a < b := by
  rw [Int64.lt_iff_toInt_lt, sL_t ha.1 ha.2, sL_t hb.1 hb.2]
theorem sL_eqI {a b : Int} (ha : -9223372036854775808 ≤ a ∧ a < 9223372036854775808) (hb : -9223372036854775808 ≤ b ∧ b < 9223372036854775808) : sL_ a = sL_ b ↔ a = b := by
  rw [← Int64.toInt_inj, sL_t ha.1 ha.2, sL_t hb.1 hb.2]
theorem sI_tdR (a b : Int) : -(a.natAbs : Int) ≤ a.tdiv b ∧ a.tdiv b ≤ a.natAbs := by
  have h := Int.natAbs_tdiv_le_natAbs a b
  omega
theorem sI_div {a b : Int} (ha : -2147483648 < a ∧ a < 2147483648) (hb : 0 < b ∧ b < 2147483648) : sI_ a / sI_ b = sI_ (a.tdiv b) := by
  have hr := sI_tdR a b
  apply Int32.toInt_inj.1
  rw [Int32.toInt_div_of_ne_right, sI_t (by omega) (by omega), sI_t (by omega) (by omega), sI_t (by omega) (by omega)]
  intro h
  have e : (sI_ b).toInt = -1 := by rw [h]; decide
  rw [sI_t (by omega) (by omega)] at e
  omega
theorem sL_div {a b : Int} (ha : -9223372036854775808 < a ∧ a < 9223372036854775808) (hb : 0 < b ∧ b < 9223372036854775808) : sL_ a / sL_ b = sL_ (a.tdiv b) := by
  have hr := sI_tdR a b
  apply Int64.toInt_inj.1
  rw [Int64.toInt_div_of_ne_right, sL_t (by omega) (by omega), sL_t (by omega) (by omega), sL_t (by omega) (by omega)]
  intro h
  have e : (sL_ b).toInt = -1 := by rw [h]; decide
  rw [sL_t (by omega) (by omega)] at e
  omega
theorem sL_rem {a b : Int} (ha : -9223372036854775808 < a ∧ a < 9223372036854775808) (hb : 0 < b ∧ b < 9223372036854775808) : sL_ a - sL_ a / sL_ b * sL_ b = sL_ (a.tmod b) := by
  rw [sL_div ha hb, sL_mul, sL_sub, Int.tmod_def, Int.mul_comm b]
theorem sI_rem {a b : Int} (ha : -2147483648 < a ∧ a < 2147483648) (hb : 0 < b ∧ b < 2147483648) : sI_ a - sI_ a / sI_ b * sI_ b = sI_ (a.tmod b) := by
  rw [sI_div ha hb, sI_mul, sI_sub, Int.tmod_def, Int.mul_comm b]
theorem sI_cl {a : Nat} (h : a < 2147483648) : (sI_ (a : Int)).toNatClampNeg = a := by
  rw [sI_nat]; exact nI_clamp (by omega)
theorem sI_in {a n : Nat} (h : a < n) (hn : n < 2147483648) : vp_in (sI_ (a : Int)) n := by
  rw [sI_nat]; exact vp_in_nI h (by omega)
theorem sI_bLe {x y : Int32} {A B : Prop} (a b : Int) (f : a ≤ b → A) (g : b < a → B) (hx : x = sI_ a := by rfl) (hy : y = sI_ b := by rfl) (ha : -2147483648 ≤ a ∧ a < 2147483648 := by omega) (hb : -2147483648 ≤ b ∧ b < 2147483648 := by omega) : (x ≤ y → A) ∧ (¬ x ≤ y → B) := by
  subst hx hy
  rw [sI_leI ha hb]
  exact ⟨f, fun h => g (by omega)⟩
theorem sI_bLt {x y : Int32} {A B : Prop} (a b : Int) (f : a < b → A) (g : b ≤ a → B) (hx : x = sI_ a := by rfl) (hy : y = sI_ b := by rfl) (ha : -2147483648 ≤ a ∧ a < 2147483648 := by omega) (hb : -2147483648 ≤ b ∧ b < 2147483648 := by omega) : (x < y → A) ∧ (¬ x < y → B) := by
  subst hx hy
  rw [sI_ltI ha hb]
  exact ⟨f, fun h => g (by omega)⟩
theorem sI_bEq {x y : Int32} {A B : Prop} (a b : Int) (f : a = b → A) (g : a ≠ b → B) (hx : x = sI_ a := by rfl) (hy : y = sI_ b := by rfl) (ha : -2147483648 ≤ a ∧ a < 2147483648 := by omega) (hb : -2147483648 ≤ b ∧ b < 2147483648 := by omega) : (x = y → A) ∧ (¬ x = y → B) := by
  subst hx hy
  rw [sI_eqI ha hb]
  exact ⟨f, g⟩
theorem sL_bLe {x y : Int64} {A B : Prop} (a b : Int) (f : a ≤ b → A) (g : b < a → B) (hx : x = sL_ a := by rfl) (hy : y = sL_ b := by rfl) (ha : -9223372036854775808 ≤ a ∧ a < 9223372036854775808 := by omega) (hb : -9223372036854775808 ≤ b ∧ b < 9223372036854775808 := by omega) : (x ≤ y → A) ∧ (¬ x ≤ y → B) := by
  subst hx hy
  rw [sL_leI ha hb]
  exact ⟨f, fun h => g (by omega)⟩
theorem sL_bLt {x y : Int64} {A B : Prop} (a b : Int) (f : a < b → A) (g : b ≤ a → B) (hx : x = sL_ a := by rfl) (hy : y = sL_ b := by rfl) (ha : -9223372036854775808 ≤ a ∧ a < 9223372036854775808 := by omega) (hb : -9223372036854775808 ≤ b ∧ b < 9223372036854775808 := by omega) : (x < y → A) ∧ (¬ x < y → B) := by
  subst hx hy
  rw [sL_ltI ha hb]
  exact ⟨f, fun h => g (by omega)⟩
theorem sL_bEq {x y : Int64} {A B : Prop} (a b : Int) (f : a = b → A) (g : a ≠ b → B) (hx : x = sL_ a := by rfl) (hy : y = sL_ b := by rfl) (ha : -9223372036854775808 ≤ a ∧ a < 9223372036854775808 := by omega) (hb : -9223372036854775808 ≤ b ∧ b < 9223372036854775808 := by omega) : (x = y → A) ∧ (¬ x = y → B) := by
  subst hx hy
  rw [sL_eqI ha hb]
  exact ⟨f, g⟩
theorem sL_n0 {a : Int} (h : a ≠ 0) (ha : -9223372036854775808 ≤ a ∧ a < 9223372036854775808) : ¬ sL_ a = 0 := by
  intro e
  exact h ((sL_eqI (b := 0) ha (by omega)).1 e)
theorem sL_10 : ¬ (10 : Int64) = 0 := by decide
theorem sL_2 : ¬ (2 : Int64) = 0 := by decide
theorem sI_10 : ¬ (10 : Int32) = 0 := by decide
/-- a boolean as a field holds it -/
def bI_ (b : Bool) : Int32 := sI_ (if b then 1 else 0)
theorem bI_t : bI_ true = 1 := rfl
theorem bI_f : bI_ false = 0 := rfl
theorem bI_n (b : Bool) : narrow .boolean (.int (bI_ b)) = .int (bI_ b) := by cases b <;> rfl
theorem bI_fit (b : Bool) : fits .boolean (.int (bI_ b)) = true := by cases b <;> rfl
theorem bI_br {A B : Prop} (b : Bool) (f : b = false → A) (g : b = true → B) : (bI_ b = 0 → A) ∧ (¬ bI_ b = 0 → B) := by
  cases b
  · exact ⟨fun _ => f rfl, fun h => absurd rfl h⟩
  · exact ⟨fun h => absurd h (by decide), fun _ => g rfl⟩
theorem sI_lit18 : (18 : Int32) = sI_ 18 := by rfl
theorem sI_litm20 : (-20 : Int32) = sI_ (-20) := by rfl
theorem sL_lit17 : (100000000000000000 : Int64) = sL_ 100000000000000000 := by rfl
theorem sL_litm17 : (-100000000000000000 : Int64) = sL_ (-100000000000000000) := by rfl
end
section
/-- the value of the first n cells, read as digits -/
def dv_ (d : Nat → Int32) : Nat → Int
  | 0 => 0
  | n + 1 => dv_ d n + (d n).toInt * 10 ^ n
theorem dv_s (d : Nat → Int32) (n : Nat) : dv_ d (n + 1) = dv_ d n + (d n).toInt * 10 ^ n := rfl
theorem dv_us (f : Nat → Int32) (k : Nat) (x : Int32) : upd f k x k = x := if_pos rfl
theorem dv_un (f : Nat → Int32) {k j : Nat} (x : Int32) (h : j ≠ k) : upd f k x j = f j := if_neg h
theorem dv_ext {d e : Nat → Int32} : ∀ {n : Nat}, (∀ i, i < n → d i = e i) → dv_ d n = dv_ e n
  | 0, _ => rfl
  | n + 1, h => by rw [dv_s, dv_s, dv_ext (fun i hi => h i (by omega)), h n (by omega)]
theorem dv_uge (d : Nat → Int32) {n k : Nat} (x : Int32) (h : n ≤ k) : dv_ (upd d k x) n = dv_ d n :=
  dv_ext fun i hi => dv_un d x (by omega)
theorem dv_ult (d : Nat → Int32) {k : Nat} (x : Int32) : ∀ {n : Nat}, k < n → dv_ (upd d k x) n = dv_ d n + (x.toInt - (d k).toInt) * 10 ^ k
  | 0, h => by omega
  | n + 1, h => by
    by_cases e : k = n
    · subst e
      rw [dv_s, dv_s, dv_uge d x (Nat.le_refl k), dv_us]
      grind
    · rw [dv_s, dv_s, dv_ult d x (n := n) (by omega), dv_un d x (by omega)]
      grind
theorem dv_0 {d : Nat → Int32} : ∀ {n : Nat}, (∀ i, i < n → d i = 0) → dv_ d n = 0
  | 0, _ => rfl
  | n + 1, h => by
    rw [dv_s, dv_0 (fun i hi => h i (by omega)), h n (by omega)]
    rw [Int32.toInt_zero]; omega
theorem tp_ (n : Nat) : (0 : Int) < 10 ^ n := Int.pow_pos (by decide)
theorem tn_ (n : Nat) : 0 < 10 ^ n := Nat.pow_pos (by decide)
theorem tc_ (n : Nat) : ((10 ^ n : Nat) : Int) = 10 ^ n := by rw [Int.natCast_pow]; rfl
theorem dv_rng {d : Nat → Int32} : ∀ {n : Nat}, (∀ i, i < n → 0 ≤ (d i).toInt ∧ (d i).toInt ≤ 9) → 0 ≤ dv_ d n ∧ dv_ d n < 10 ^ n
  | 0, _ => by rw [show dv_ d 0 = 0 from rfl]; omega
  | n + 1, h => by
    have ⟨a, b⟩ := dv_rng (n := n) (fun i hi => h i (by omega))
    have ⟨p, q⟩ := h n (by omega)
    have t := tp_ n
    rw [dv_s, Int.pow_succ]
    have u := Int.mul_le_mul_of_nonneg_right q (Int.le_of_lt t)
    have w := Int.mul_nonneg p (Int.le_of_lt t)
    generalize (d n).toInt * 10 ^ n = z at *
    generalize (10 : Int) ^ n = T at *
    omega
/-- digit i of a number -/
theorem dd_low {A D n i : Nat} (h : i < n) : (A + D * 10 ^ n) / 10 ^ i % 10 = A / 10 ^ i % 10 := by
  obtain ⟨m, rfl⟩ : ∃ m, n = i + (m + 1) := ⟨n - i - 1, by omega⟩
  have e : D * 10 ^ (i + (m + 1)) = 10 ^ i * (10 * (D * 10 ^ m)) := by grind
  rw [e, Nat.add_mul_div_left _ _ (tn_ i)]
  omega
theorem dd_top {A D n : Nat} (h : A < 10 ^ n) : (A + D * 10 ^ n) / 10 ^ n = D := by
  rw [Nat.add_mul_div_right _ _ (tn_ n), Nat.div_eq_of_lt h]; omega
theorem dv_dig {d : Nat → Int32} : ∀ {n : Nat} {M : Nat}, (∀ i, i < n → 0 ≤ (d i).toInt ∧ (d i).toInt ≤ 9) → dv_ d n = (M : Int) → ∀ i, i < n → (d i).toInt = ((M / 10 ^ i % 10 : Nat) : Int)
  | 0, _, _, _ => fun i hi => by omega
  | n + 1, M, h, hv => fun i hi => by
    have hh : ∀ i, i < n → 0 ≤ (d i).toInt ∧ (d i).toInt ≤ 9 := fun i hi => h i (by omega)
    have ⟨a, b⟩ := dv_rng hh
    have ⟨p, q⟩ := h n (by omega)
    obtain ⟨A, hA⟩ := Int.eq_ofNat_of_zero_le a
    obtain ⟨D, hD⟩ := Int.eq_ofNat_of_zero_le p
    have e : M = A + D * 10 ^ n := by
      rw [dv_s, hA, hD] at hv
      have := tc_ n
      rw [← this] at hv
      exact_mod_cast hv.symm
    have hA' : A < 10 ^ n := by
      rw [hA, ← tc_ n] at b
      exact_mod_cast b
    have hD' : D < 10 := by omega
    by_cases c : i = n
    · subst c
      rw [e, dd_top hA', hD, Nat.mod_eq_of_lt hD']
    · rw [e, dd_low (by omega)]
      exact dv_dig hh hA i (by omega)
/-- the cells hold the digits of M -/
def dg_ (d : Nat → Int32) (M : Nat) : Prop := ∀ i, i < 128 → d i = sI_ ((M / 10 ^ i % 10 : Nat) : Int)
theorem dg_of {d : Nat → Int32} {M : Nat} (h : ∀ i, i < 128 → 0 ≤ (d i).toInt ∧ (d i).toInt ≤ 9) (e : dv_ d 128 = (M : Int)) : dg_ d M := by
  intro i hi
  rw [← dv_dig h e i hi, sI_self]
theorem dd_s (M i : Nat) : M / 10 ^ i = M / 10 ^ (i + 1) * 10 + M / 10 ^ i % 10 := by
  rw [Nat.pow_succ, ← Nat.div_div_eq_div_mul]; omega
theorem dd_m (M i : Nat) : M % 10 ^ (i + 1) = M % 10 ^ i + 10 ^ i * (M / 10 ^ i % 10) := by
  rw [Nat.pow_succ, Nat.mod_mul]
theorem dd_le {a b : Nat} (h : a ≤ b) : 10 ^ a ≤ 10 ^ b := Nat.pow_le_pow_right (by decide) h
theorem dd_lt {a b : Nat} (h : a < b) : 10 ^ a < 10 ^ b := Nat.pow_lt_pow_right (by decide) h
theorem dd_rv {a b : Nat} (h : 10 ^ a < 10 ^ b) : a < b := by
  by_cases c : a < b
  · exact c
  · have := dd_le (a := b) (b := a) (by omega); omega
end
section
theorem zz_last : True := trivial
theorem zz_bad (a b : Nat) (h : 10 ^ a < 10 ^ b) : b < a := dd_rv h
end
