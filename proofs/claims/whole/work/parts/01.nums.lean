/-- signed numbers as the machine holds them -/
def sI_ (z : Int) : Int32 := Int32.ofInt z
def sL_ (z : Int) : Int64 := Int64.ofInt z
theorem sI_t {z : Int} (h1 : -2147483648 ≤ z) (h2 : z < 2147483648) : (sI_ z).toInt = z := Int32.toInt_ofInt_of_le (by omega) (by omega)
theorem sL_t {z : Int} (h1 : -9223372036854775808 ≤ z) (h2 : z < 9223372036854775808) : (sL_ z).toInt = z := Int64.toInt_ofInt_of_le (by omega) (by omega)
theorem sI_nat (n : Nat) : sI_ (n : Int) = nI n := Int32.ofInt_eq_ofNat
theorem sL_nat (n : Nat) : sL_ (n : Int) = lN n := Int64.ofInt_eq_ofNat
theorem sI_self (x : Int32) : sI_ x.toInt = x := Int32.ofInt_toInt x
theorem sL_self (x : Int64) : sL_ x.toInt = x := Int64.ofInt_toInt x
theorem sI_add (a b : Int) : sI_ a + sI_ b = sI_ (a + b) := (Int32.ofInt_add a b).symm
theorem sI_sub (a b : Int) : sI_ a - sI_ b = sI_ (a - b) := (Int32.ofInt_sub a b).symm
theorem sI_mul (a b : Int) : sI_ a * sI_ b = sI_ (a * b) := (Int32.ofInt_mul a b).symm
theorem sI_neg (a : Int) : -sI_ a = sI_ (-a) := (Int32.ofInt_neg a).symm
theorem sL_add (a b : Int) : sL_ a + sL_ b = sL_ (a + b) := (Int64.ofInt_add a b).symm
theorem sL_sub (a b : Int) : sL_ a - sL_ b = sL_ (a - b) := (Int64.ofInt_sub a b).symm
theorem sL_mul (a b : Int) : sL_ a * sL_ b = sL_ (a * b) := (Int64.ofInt_mul a b).symm
theorem sL_neg (a : Int) : -sL_ a = sL_ (-a) := (Int64.ofInt_neg a).symm
theorem sL_i (a : Int) : (sL_ a).toInt32 = sI_ a := Int64.toInt32_ofInt
theorem sI_l {a : Int} (h1 : -2147483648 ≤ a) (h2 : a < 2147483648) : (sI_ a).toInt64 = sL_ a := by
  apply Int64.toInt_inj.1
  rw [Int32.toInt_toInt64, sI_t h1 h2, sL_t (by omega) (by omega)]
theorem sI_tl (x : Int32) : x.toInt64 = sL_ x.toInt := (Int64.ofInt_int32ToInt x).symm
theorem sI_leI {a b : Int} (ha : -2147483648 ≤ a ∧ a < 2147483648) (hb : -2147483648 ≤ b ∧ b < 2147483648) : sI_ a ≤ sI_ b ↔ a ≤ b := by
  rw [Int32.le_iff_toInt_le, sI_t ha.1 ha.2, sI_t hb.1 hb.2]
theorem sI_ltI {a b : Int} (ha : -2147483648 ≤ a ∧ a < 2147483648) (hb : -2147483648 ≤ b ∧ b < 2147483648) : sI_ a < sI_ b ↔ a < b := by
  rw [Int32.lt_iff_toInt_lt, sI_t ha.1 ha.2, sI_t hb.1 hb.2]
theorem sI_eqI {a b : Int} (ha : -2147483648 ≤ a ∧ a < 2147483648) (hb : -2147483648 ≤ b ∧ b < 2147483648) : sI_ a = sI_ b ↔ a = b := by
  rw [← Int32.toInt_inj, sI_t ha.1 ha.2, sI_t hb.1 hb.2]
theorem sL_leI {a b : Int} (ha : -9223372036854775808 ≤ a ∧ a < 9223372036854775808) (hb : -9223372036854775808 ≤ b ∧ b < 9223372036854775808) : sL_ a ≤ sL_ b ↔ a ≤ b := by
  rw [Int64.le_iff_toInt_le, sL_t ha.1 ha.2, sL_t hb.1 hb.2]
theorem sL_ltI {a b : Int} (ha : -9223372036854775808 ≤ a ∧ a < 9223372036854775808) (hb : -9223372036854775808 ≤ b ∧ b < 9223372036854775808) : sL_ a < sL_ b ↔ a < b := by
  rw [Int64.lt_iff_toInt_lt, sL_t ha.1 ha.2, sL_t hb.1 hb.2]
theorem sL_eqI {a b : Int} (ha : -9223372036854775808 ≤ a ∧ a < 9223372036854775808) (hb : -9223372036854775808 ≤ b ∧ b < 9223372036854775808) : sL_ a = sL_ b ↔ a = b := by
  rw [← Int64.toInt_inj, sL_t ha.1 ha.2, sL_t hb.1 hb.2]
theorem sI_tdR (a b : Int) : -(a.natAbs : Int) ≤ a.tdiv b ∧ a.tdiv b ≤ a.natAbs := by
  have h := Int.natAbs_tdiv_le_natAbs a b
  omega
theorem sI_div {a b : Int} (ha : -2147483648 < a ∧ a < 2147483648) (hb : 0 < b ∧ b < 2147483648) : sI_ a / sI_ b = sI_ (a.tdiv b) := by
  have hr := sI_tdR a b
  apply Int32.toInt_inj.1
  rw [Int32.toInt_div_of_ne_right, sI_t (by omega) (by omega), sI_t (by omega) (by omega), sI_t (by omega) (by omega)]
  intro h
  have e : (sI_ b).toInt = -1 := by rw [h]; decide
  rw [sI_t (by omega) (by omega)] at e
  omega
theorem sL_div {a b : Int} (ha : -9223372036854775808 < a ∧ a < 9223372036854775808) (hb : 0 < b ∧ b < 9223372036854775808) : sL_ a / sL_ b = sL_ (a.tdiv b) := by
  have hr := sI_tdR a b
  apply Int64.toInt_inj.1
  rw [Int64.toInt_div_of_ne_right, sL_t (by omega) (by omega), sL_t (by omega) (by omega), sL_t (by omega) (by omega)]
  intro h
  have e : (sL_ b).toInt = -1 := by rw [h]; decide
  rw [sL_t (by omega) (by omega)] at e
  omega
theorem sL_rem {a b : Int} (ha : -9223372036854775808 < a ∧ a < 9223372036854775808) (hb : 0 < b ∧ b < 9223372036854775808) : sL_ a - sL_ a / sL_ b * sL_ b = sL_ (a.tmod b) := by
  rw [sL_div ha hb, sL_mul, sL_sub, Int.tmod_def, Int.mul_comm b]
theorem sI_rem {a b : Int} (ha : -2147483648 < a ∧ a < 2147483648) (hb : 0 < b ∧ b < 2147483648) : sI_ a - sI_ a / sI_ b * sI_ b = sI_ (a.tmod b) := by
  rw [sI_div ha hb, sI_mul, sI_sub, Int.tmod_def, Int.mul_comm b]
theorem sI_cl {a : Nat} (h : a < 2147483648) : (sI_ (a : Int)).toNatClampNeg = a := by
  rw [sI_nat]; exact nI_clamp (by omega)
theorem sI_in {a n : Nat} (h : a < n) (hn : n < 2147483648) : vp_in (sI_ (a : Int)) n := by
  rw [sI_nat]; exact vp_in_nI h (by omega)
theorem sI_bLe {x y : Int32} {A B : Prop} (a b : Int) (f : a ≤ b → A) (g : b < a → B) (hx : x = sI_ a := by rfl) (hy : y = sI_ b := by rfl) (ha : -2147483648 ≤ a ∧ a < 2147483648 := by omega) (hb : -2147483648 ≤ b ∧ b < 2147483648 := by omega) : (x ≤ y → A) ∧ (¬ x ≤ y → B) := by
  subst hx hy
  rw [sI_leI ha hb]
  exact ⟨f, fun h => g (by omega)⟩
theorem sI_bLt {x y : Int32} {A B : Prop} (a b : Int) (f : a < b → A) (g : b ≤ a → B) (hx : x = sI_ a := by rfl) (hy : y = sI_ b := by rfl) (ha : -2147483648 ≤ a ∧ a < 2147483648 := by omega) (hb : -2147483648 ≤ b ∧ b < 2147483648 := by omega) : (x < y → A) ∧ (¬ x < y → B) := by
  subst hx hy
  rw [sI_ltI ha hb]
  exact ⟨f, fun h => g (by omega)⟩
theorem sI_bEq {x y : Int32} {A B : Prop} (a b : Int) (f : a = b → A) (g : a ≠ b → B) (hx : x = sI_ a := by rfl) (hy : y = sI_ b := by rfl) (ha : -2147483648 ≤ a ∧ a < 2147483648 := by omega) (hb : -2147483648 ≤ b ∧ b < 2147483648 := by omega) : (x = y → A) ∧ (¬ x = y → B) := by
  subst hx hy
  rw [sI_eqI ha hb]
  exact ⟨f, g⟩
theorem sL_bLe {x y : Int64} {A B : Prop} (a b : Int) (f : a ≤ b → A) (g : b < a → B) (hx : x = sL_ a := by rfl) (hy : y = sL_ b := by rfl) (ha : -9223372036854775808 ≤ a ∧ a < 9223372036854775808 := by omega) (hb : -9223372036854775808 ≤ b ∧ b < 9223372036854775808 := by omega) : (x ≤ y → A) ∧ (¬ x ≤ y → B) := by
  subst hx hy
  rw [sL_leI ha hb]
  exact ⟨f, fun h => g (by omega)⟩
theorem sL_bLt {x y : Int64} {A B : Prop} (a b : Int) (f : a < b → A) (g : b ≤ a → B) (hx : x = sL_ a := by rfl) (hy : y = sL_ b := by rfl) (ha : -9223372036854775808 ≤ a ∧ a < 9223372036854775808 := by omega) (hb : -9223372036854775808 ≤ b ∧ b < 9223372036854775808 := by omega) : (x < y → A) ∧ (¬ x < y → B) := by
  subst hx hy
  rw [sL_ltI ha hb]
  exact ⟨f, fun h => g (by omega)⟩
theorem sL_bEq {x y : Int64} {A B : Prop} (a b : Int) (f : a = b → A) (g : a ≠ b → B) (hx : x = sL_ a := by rfl) (hy : y = sL_ b := by rfl) (ha : -9223372036854775808 ≤ a ∧ a < 9223372036854775808 := by omega) (hb : -9223372036854775808 ≤ b ∧ b < 9223372036854775808 := by omega) : (x = y → A) ∧ (¬ x = y → B) := by
  subst hx hy
  rw [sL_eqI ha hb]
  exact ⟨f, g⟩
theorem sL_n0 {a : Int} (h : a ≠ 0) (ha : -9223372036854775808 ≤ a ∧ a < 9223372036854775808) : ¬ sL_ a = 0 := by
  intro e
  exact h ((sL_eqI (b := 0) ha (by omega)).1 e)
theorem sL_10 : ¬ (10 : Int64) = 0 := by decide
theorem sL_2 : ¬ (2 : Int64) = 0 := by decide
theorem sI_10 : ¬ (10 : Int32) = 0 := by decide
/-- a boolean as a field holds it -/
def bI_ (b : Bool) : Int32 := sI_ (if b then 1 else 0)
theorem bI_t : bI_ true = 1 := rfl
theorem bI_f : bI_ false = 0 := rfl
theorem bI_n (b : Bool) : narrow .boolean (.int (bI_ b)) = .int (bI_ b) := by cases b <;> rfl
theorem bI_fit (b : Bool) : fits .boolean (.int (bI_ b)) = true := by cases b <;> rfl
theorem bI_br {A B : Prop} (b : Bool) (f : b = false → A) (g : b = true → B) : (bI_ b = 0 → A) ∧ (¬ bI_ b = 0 → B) := by
  cases b
  · exact ⟨fun _ => f rfl, fun h => absurd rfl h⟩
  · exact ⟨fun h => absurd h (by decide), fun _ => g rfl⟩
theorem sI_lit18 : (18 : Int32) = sI_ 18 := by rfl
theorem sI_litm20 : (-20 : Int32) = sI_ (-20) := by rfl
theorem sL_lit17 : (100000000000000000 : Int64) = sL_ 100000000000000000 := by rfl
theorem sL_litm17 : (-100000000000000000 : Int64) = sL_ (-100000000000000000) := by rfl
theorem sL_rem10 {a : Int} (ha : -9223372036854775808 < a ∧ a < 9223372036854775808) : sL_ a - sL_ a / 10 * 10 = sL_ (a.tmod 10) := sL_rem (b := 10) ha (by omega)
theorem sL_div10 {a : Int} (ha : -9223372036854775808 < a ∧ a < 9223372036854775808) : sL_ a / 10 = sL_ (a.tdiv 10) := sL_div (b := 10) ha (by omega)
theorem sL_rem2 {a : Int} (ha : -9223372036854775808 < a ∧ a < 9223372036854775808) : sL_ a - sL_ a / 2 * 2 = sL_ (a.tmod 2) := sL_rem (b := 2) ha (by omega)
theorem sI_rem10 {a : Int} (ha : -2147483648 < a ∧ a < 2147483648) : sI_ a - sI_ a / 10 * 10 = sI_ (a.tmod 10) := sI_rem (b := 10) ha (by omega)
theorem sI_div10 {a : Int} (ha : -2147483648 < a ∧ a < 2147483648) : sI_ a / 10 = sI_ (a.tdiv 10) := sI_div (b := 10) ha (by omega)
theorem sI_m1 (a : Int) : sI_ a + (-1) = sI_ (a - 1) := by
  rw [show (-1 : Int32) = sI_ (-1) from rfl, sI_add, Int.sub_eq_add_neg]
theorem sI_p1 (a : Int) : sI_ a + 1 = sI_ (a + 1) := by
  rw [show (1 : Int32) = sI_ 1 from rfl, sI_add]
