section
/-- signed numbers as the machine holds them -/
def sI_ (z : Int) : Int32 := Int32.ofInt z
def sL_ (z : Int) : Int64 := Int64.ofInt z
theorem sI_t {z : Int} (h1 : -2147483648 ≤ z) (h2 : z < 2147483648) : (sI_ z).toInt = z := Int32.toInt_ofInt_of_le (by omega) (by omega)
theorem sL_t {z : Int} (h1 : -9223372036854775808 ≤ z) (h2 : z < 9223372036854775808) : (sL_ z).toInt = z := Int64.toInt_ofInt_of_le (by omega) (by omega)
theorem sI_nat (n : Nat) : sI_ (n : Int) = nI n := Int32.ofInt_eq_ofNat
theorem sL_nat (n : Nat) : sL_ (n : Int) = lN n := Int64.ofInt_eq_ofNat
theorem sI_self (x : Int32) : sI_ x.toInt = x := Int32.ofInt_toInt x
theorem sL_self (x : Int64) : sL_ x.toInt = x := Int64.ofInt_toInt x
theorem sI_add (a b : Int) : sI_ a + sI_ b = sI_ (a + b) := (Int32.ofInt_add a b).symm
theorem sI_sub (a b : Int) : sI_ a - sI_ b = sI_ (a - b) := (Int32.ofInt_sub a b).symm
theorem sI_mul (a b : Int) : sI_ a * sI_ b = sI_ (a * b) := (Int32.ofInt_mul a b).symm
theorem sI_neg (a : Int) : -sI_ a = sI_ (-a) := (Int32.ofInt_neg a).symm
theorem sL_add (a b : Int) : sL_ a + sL_ b = sL_ (a + b) := (Int64.ofInt_add a b).symm
theorem sL_sub (a b : Int) : sL_ a - sL_ b = sL_ (a - b) := (Int64.ofInt_sub a b).symm
theorem sL_mul (a b : Int) : sL_ a * sL_ b = sL_ (a * b) := (Int64.ofInt_mul a b).symm
theorem sL_neg (a : Int) : -sL_ a = sL_ (-a) := (Int64.ofInt_neg a).symm
theorem sL_i (a : Int) : (sL_ a).toInt32 = sI_ a := Int64.toInt32_ofInt
theorem sI_l {a : Int} (h1 : -2147483648 ≤ a) (h2 : a < 2147483648) : (sI_ a).toInt64 = sL_ a := by
  apply Int64.toInt_inj.1
  rw [Int32.toInt_toInt64, sI_t h1 h2, sL_t (by omega) (by omega)]
theorem sI_tl (x : Int32) : x.toInt64 = sL_ x.toInt := (Int64.ofInt_int32ToInt x).symm
theorem sI_leI {a b : Int} (ha : -2147483648 ≤ a ∧ a < 2147483648) (hb : -2147483648 ≤ b ∧ b < 2147483648) : sI_ a ≤ sI_ b ↔ a ≤ b := by
  rw [Int32.le_iff_toInt_le, sI_t ha.1 ha.2, sI_t hb.1 hb.2]
theorem sI_ltI {a b : Int} (ha : -2147483648 ≤ a ∧ a < 2147483648) (hb : -2147483648 ≤ b ∧ b < 2147483648) : sI_ a < sI_ b ↔ a < b := by
  rw [Int32.lt_iff_toInt_lt, sI_t ha.1 ha.2, sI_t hb.1 hb.2]
theorem sI_eqI {a b : Int} (ha : -2147483648 ≤ a ∧ a < 2147483648) (hb : -2147483648 ≤ b ∧ b < 2147483648) : sI_ a = sI_ b ↔ a = b := by
  rw [← Int32.toInt_inj, sI_t ha.1 ha.2, sI_t hb.1 hb.2]
theorem sL_leI {a b : Int} (ha : -9223372036854775808 ≤ a ∧ a < 9223372036854775808) (hb : -9223372036854775808 ≤ b ∧ b < 9223372036854775808) : sL_ a ≤ sL_ b ↔ a ≤ b := by
  rw [Int64.le_iff_toInt_le, sL_t ha.1 ha.2, sL_t hb.1 hb.2]
theorem sL_ltI {a b : Int} (ha : -9223372036854775808 ≤ a ∧ a < 9223372036854775808) (hb : -9223372036854775808 ≤ b ∧ b < 9223372036854775808) : sL_ a < sL_ b ↔ a < b := by
  rw [Int64.lt_iff_toInt_lt, sL_t ha.1 ha.2, sL_t hb.1 hb.2]
theorem sL_eqI {a b : Int} (ha : -9223372036854775808 ≤ a ∧ a < 9223372036854775808) (hb : -9223372036854775808 ≤ b ∧ b < 9223372036854775808) : sL_ a = sL_ b ↔ a = b := by
  rw [← Int64.toInt_inj, sL_t ha.1 ha.2, sL_t hb.1 hb.2]
theorem sI_tdR (a b : Int) : -(a.natAbs : Int) ≤ a.tdiv b ∧ a.tdiv b ≤ a.natAbs := by
  have h := Int.natAbs_tdiv_le_natAbs a b
  omega
theorem sI_div {a b : Int} (ha : -2147483648 < a ∧ a < 2147483648) (hb : 0 < b ∧ b < 2147483648) : sI_ a / sI_ b = sI_ (a.tdiv b) := by
  have hr := sI_tdR a b
  apply Int32.toInt_inj.1
  rw [Int32.toInt_div_of_ne_right, sI_t (by omega) (by omega), sI_t (by omega) (by omega), sI_t (by omega) (by omega)]
  intro h
  have e : (sI_ b).toInt = -1 := by rw [h]; decide
  rw [sI_t (by omega) (by omega)] at e
  omega
theorem sL_div {a b : Int} (ha : -9223372036854775808 < a ∧ a < 9223372036854775808) (hb : 0 < b ∧ b < 9223372036854775808) : sL_ a / sL_ b = sL_ (a.tdiv b) := by
  have hr := sI_tdR a b
  apply Int64.toInt_inj.1
  rw [Int64.toInt_div_of_ne_right, sL_t (by omega) (by omega), sL_t (by omega) (by omega), sL_t (by omega) (by omega)]
  intro h
  have e : (sL_ b).toInt = -1 := by rw [h]; decide
  rw [sL_t (by omega) (by omega)] at e
  omega
theorem sL_rem {a b : Int} (ha : -9223372036854775808 < a ∧ a < 9223372036854775808) (hb : 0 < b ∧ b < 9223372036854775808) : sL_ a - sL_ a / sL_ b * sL_ b = sL_ (a.tmod b) := by
  rw [sL_div ha hb, sL_mul, sL_sub, Int.tmod_def, Int.mul_comm b]
theorem sI_rem {a b : Int} (ha : -2147483648 < a ∧ a < 2147483648) (hb : 0 < b ∧ b < 2147483648) : sI_ a - sI_ a / sI_ b * sI_ b = sI_ (a.tmod b) := by
  rw [sI_div ha hb, sI_mul, sI_sub, Int.tmod_def, Int.mul_comm b]
theorem sI_cl {a : Nat} (h : a < 2147483648) : (sI_ (a : Int)).toNatClampNeg = a := by
  rw [sI_nat]; exact nI_clamp (by omega)
theorem sI_in {a n : Nat} (h : a < n) (hn : n < 2147483648) : vp_in (sI_ (a : Int)) n := by
  rw [sI_nat]; exact vp_in_nI h (by omega)
theorem sI_bLe {x y : Int32} {A B : Prop} (a b : Int) (f : a ≤ b → A) (g : b < a → B) (hx : x = sI_ a := by rfl) (hy : y = sI_ b := by rfl) (ha : -2147483648 ≤ a ∧ a < 2147483648 := by omega) (hb : -2147483648 ≤ b ∧ b < 2147483648 := by omega) : (x ≤ y → A) ∧ (¬ x ≤ y → B) := by
  subst hx hy
  rw [sI_leI ha hb]
  exact ⟨f, fun h => g (by omega)⟩
theorem sI_bLt {x y : Int32} {A B : Prop} (a b : Int) (f : a < b → A) (g : b ≤ a → B) (hx : x = sI_ a := by rfl) (hy : y = sI_ b := by rfl) (ha : -2147483648 ≤ a ∧ a < 2147483648 := by omega) (hb : -2147483648 ≤ b ∧ b < 2147483648 := by omega) : (x < y → A) ∧ (¬ x < y → B) := by
  subst hx hy
  rw [sI_ltI ha hb]
  exact ⟨f, fun h => g (by omega)⟩
theorem sI_bEq {x y : Int32} {A B : Prop} (a b : Int) (f : a = b → A) (g : a ≠ b → B) (hx : x = sI_ a := by rfl) (hy : y = sI_ b := by rfl) (ha : -2147483648 ≤ a ∧ a < 2147483648 := by omega) (hb : -2147483648 ≤ b ∧ b < 2147483648 := by omega) : (x = y → A) ∧ (¬ x = y → B) := by
  subst hx hy
  rw [sI_eqI ha hb]
  exact ⟨f, g⟩
theorem sL_bLe {x y : Int64} {A B : Prop} (a b : Int) (f : a ≤ b → A) (g : b < a → B) (hx : x = sL_ a := by rfl) (hy : y = sL_ b := by rfl) (ha : -9223372036854775808 ≤ a ∧ a < 9223372036854775808 := by omega) (hb : -9223372036854775808 ≤ b ∧ b < 9223372036854775808 := by omega) : (x ≤ y → A) ∧ (¬ x ≤ y → B) := by
  subst hx hy
  rw [sL_leI ha hb]
  exact ⟨f, fun h => g (by omega)⟩
theorem sL_bLt {x y : Int64} {A B : Prop} (a b : Int) (f : a < b → A) (g : b ≤ a → B) (hx : x = sL_ a := by rfl) (hy : y = sL_ b := by rfl) (ha : -9223372036854775808 ≤ a ∧ a < 9223372036854775808 := by omega) (hb : -9223372036854775808 ≤ b ∧ b < 9223372036854775808 := by omega) : (x < y → A) ∧ (¬ x < y → B) := by
  subst hx hy
  rw [sL_ltI ha hb]
  exact ⟨f, fun h => g (by omega)⟩
theorem sL_bEq {x y : Int64} {A B : Prop} (a b : Int) (f : a = b → A) (g : a ≠ b → B) (hx : x = sL_ a := by rfl) (hy : y = sL_ b := by rfl) (ha : -9223372036854775808 ≤ a ∧ a < 9223372036854775808 := by omega) (hb : -9223372036854775808 ≤ b ∧ b < 9223372036854775808 := by omega) : (x = y → A) ∧ (¬ x = y → B) := by
  subst hx hy
  rw [sL_eqI ha hb]
  exact ⟨f, g⟩
theorem sL_n0 {a : Int} (h : a ≠ 0) (ha : -9223372036854775808 ≤ a ∧ a < 9223372036854775808) : ¬ sL_ a = 0 := by
  intro e
  exact h ((sL_eqI (b := 0) ha (by omega)).1 e)
theorem sL_10 : ¬ (10 : Int64) = 0 := by decide
theorem sL_2 : ¬ (2 : Int64) = 0 := by decide
theorem sI_10 : ¬ (10 : Int32) = 0 := by decide
/-- a boolean as a field holds it -/
def bI_ (b : Bool) : Int32 := sI_ (if b then 1 else 0)
theorem bI_t : bI_ true = 1 := rfl
theorem bI_f : bI_ false = 0 := rfl
theorem bI_n (b : Bool) : narrow .boolean (.int (bI_ b)) = .int (bI_ b) := by cases b <;> rfl
theorem bI_fit (b : Bool) : fits .boolean (.int (bI_ b)) = true := by cases b <;> rfl
theorem bI_br {A B : Prop} (b : Bool) (f : b = false → A) (g : b = true → B) : (bI_ b = 0 → A) ∧ (¬ bI_ b = 0 → B) := by
  cases b
  · exact ⟨fun _ => f rfl, fun h => absurd rfl h⟩
  · exact ⟨fun h => absurd h (by decide), fun _ => g rfl⟩
theorem sI_lit18 : (18 : Int32) = sI_ 18 := by rfl
theorem sI_litm20 : (-20 : Int32) = sI_ (-20) := by rfl
theorem sL_lit17 : (100000000000000000 : Int64) = sL_ 100000000000000000 := by rfl
theorem sL_litm17 : (-100000000000000000 : Int64) = sL_ (-100000000000000000) := by rfl
theorem sL_rem10 {a : Int} (ha : -9223372036854775808 < a ∧ a < 9223372036854775808) : sL_ a - sL_ a / 10 * 10 = sL_ (a.tmod 10) := sL_rem (b := 10) ha (by omega)
theorem sL_div10 {a : Int} (ha : -9223372036854775808 < a ∧ a < 9223372036854775808) : sL_ a / 10 = sL_ (a.tdiv 10) := sL_div (b := 10) ha (by omega)
theorem sL_rem2 {a : Int} (ha : -9223372036854775808 < a ∧ a < 9223372036854775808) : sL_ a - sL_ a / 2 * 2 = sL_ (a.tmod 2) := sL_rem (b := 2) ha (by omega)
theorem sI_rem10 {a : Int} (ha : -2147483648 < a ∧ a < 2147483648) : sI_ a - sI_ a / 10 * 10 = sI_ (a.tmod 10) := sI_rem (b := 10) ha (by omega)
theorem sI_div10 {a : Int} (ha : -2147483648 < a ∧ a < 2147483648) : sI_ a / 10 = sI_ (a.tdiv 10) := sI_div (b := 10) ha (by omega)
theorem sI_m1 (a : Int) : sI_ a + (-1) = sI_ (a - 1) := by
  rw [show (-1 : Int32) = sI_ (-1) from rfl, sI_add, Int.sub_eq_add_neg]
theorem sI_p1 (a : Int) : sI_ a + 1 = sI_ (a + 1) := by
  rw [show (1 : Int32) = sI_ 1 from rfl, sI_add]
end
section
/-- the value of the first n cells, read as digits -/
def dv_ (d : Nat → Int32) : Nat → Int
  | 0 => 0
  | n + 1 => dv_ d n + (d n).toInt * 10 ^ n
theorem dv_s (d : Nat → Int32) (n : Nat) : dv_ d (n + 1) = dv_ d n + (d n).toInt * 10 ^ n := rfl
theorem dv_us (f : Nat → Int32) (k : Nat) (x : Int32) : upd f k x k = x := if_pos rfl
theorem dv_un (f : Nat → Int32) {k j : Nat} (x : Int32) (h : j ≠ k) : upd f k x j = f j := if_neg h
theorem dv_ext {d e : Nat → Int32} : ∀ {n : Nat}, (∀ i, i < n → d i = e i) → dv_ d n = dv_ e n
  | 0, _ => rfl
  | n + 1, h => by rw [dv_s, dv_s, dv_ext (fun i hi => h i (by omega)), h n (by omega)]
theorem dv_uge (d : Nat → Int32) {n k : Nat} (x : Int32) (h : n ≤ k) : dv_ (upd d k x) n = dv_ d n :=
  dv_ext fun i hi => dv_un d x (by omega)
theorem dv_ult (d : Nat → Int32) {k : Nat} (x : Int32) : ∀ {n : Nat}, k < n → dv_ (upd d k x) n = dv_ d n + (x.toInt - (d k).toInt) * 10 ^ k
  | 0, h => by omega
  | n + 1, h => by
    by_cases e : k = n
    · subst e
      rw [dv_s, dv_s, dv_uge d x (Nat.le_refl k), dv_us]
      grind
    · rw [dv_s, dv_s, dv_ult d x (n := n) (by omega), dv_un d x (by omega)]
      grind
theorem dv_0 {d : Nat → Int32} : ∀ {n : Nat}, (∀ i, i < n → d i = 0) → dv_ d n = 0
  | 0, _ => rfl
  | n + 1, h => by
    rw [dv_s, dv_0 (fun i hi => h i (by omega)), h n (by omega)]
    rw [Int32.toInt_zero]; omega
theorem tp_ (n : Nat) : (0 : Int) < 10 ^ n := Int.pow_pos (by decide)
theorem tn_ (n : Nat) : 0 < 10 ^ n := Nat.pow_pos (by decide)
theorem tc_ (n : Nat) : ((10 ^ n : Nat) : Int) = 10 ^ n := by rw [Int.natCast_pow]; rfl
theorem dv_rng {d : Nat → Int32} : ∀ {n : Nat}, (∀ i, i < n → 0 ≤ (d i).toInt ∧ (d i).toInt ≤ 9) → 0 ≤ dv_ d n ∧ dv_ d n < 10 ^ n
  | 0, _ => by rw [show dv_ d 0 = 0 from rfl]; omega
  | n + 1, h => by
    have ⟨a, b⟩ := dv_rng (n := n) (fun i hi => h i (by omega))
    have ⟨p, q⟩ := h n (by omega)
    have t := tp_ n
    rw [dv_s, Int.pow_succ]
    have u := Int.mul_le_mul_of_nonneg_right q (Int.le_of_lt t)
    have w := Int.mul_nonneg p (Int.le_of_lt t)
    generalize (d n).toInt * 10 ^ n = z at *
    generalize (10 : Int) ^ n = T at *
    omega
/-- digit i of a number -/
theorem dd_low {A D n i : Nat} (h : i < n) : (A + D * 10 ^ n) / 10 ^ i % 10 = A / 10 ^ i % 10 := by
  obtain ⟨m, rfl⟩ : ∃ m, n = i + (m + 1) := ⟨n - i - 1, by omega⟩
  have e : D * 10 ^ (i + (m + 1)) = 10 ^ i * (10 * (D * 10 ^ m)) := by grind
  rw [e, Nat.add_mul_div_left _ _ (tn_ i)]
  omega
theorem dd_top {A D n : Nat} (h : A < 10 ^ n) : (A + D * 10 ^ n) / 10 ^ n = D := by
  rw [Nat.add_mul_div_right _ _ (tn_ n), Nat.div_eq_of_lt h]; omega
theorem dv_dig {d : Nat → Int32} : ∀ {n : Nat} {M : Nat}, (∀ i, i < n → 0 ≤ (d i).toInt ∧ (d i).toInt ≤ 9) → dv_ d n = (M : Int) → ∀ i, i < n → (d i).toInt = ((M / 10 ^ i % 10 : Nat) : Int)
  | 0, _, _, _ => fun i hi => by omega
  | n + 1, M, h, hv => fun i hi => by
    have hh : ∀ i, i < n → 0 ≤ (d i).toInt ∧ (d i).toInt ≤ 9 := fun i hi => h i (by omega)
    have ⟨a, b⟩ := dv_rng hh
    have ⟨p, q⟩ := h n (by omega)
    obtain ⟨A, hA⟩ := Int.eq_ofNat_of_zero_le a
    obtain ⟨D, hD⟩ := Int.eq_ofNat_of_zero_le p
    have e : M = A + D * 10 ^ n := by
      rw [dv_s, hA, hD] at hv
      have := tc_ n
      rw [← this] at hv
      exact_mod_cast hv.symm
    have hA' : A < 10 ^ n := by
      rw [hA, ← tc_ n] at b
      exact_mod_cast b
    have hD' : D < 10 := by omega
    by_cases c : i = n
    · subst c
      rw [e, dd_top hA', hD, Nat.mod_eq_of_lt hD']
    · rw [e, dd_low (by omega)]
      exact dv_dig hh hA i (by omega)
/-- the cells hold the digits of M -/
def dg_ (d : Nat → Int32) (M : Nat) : Prop := ∀ i, i < 128 → d i = sI_ ((M / 10 ^ i % 10 : Nat) : Int)
theorem dg_of {d : Nat → Int32} {M : Nat} (h : ∀ i, i < 128 → 0 ≤ (d i).toInt ∧ (d i).toInt ≤ 9) (e : dv_ d 128 = (M : Int)) : dg_ d M := by
  intro i hi
  rw [← dv_dig h e i hi, sI_self]
theorem dd_s (M i : Nat) : M / 10 ^ i = M / 10 ^ (i + 1) * 10 + M / 10 ^ i % 10 := by
  rw [Nat.pow_succ, ← Nat.div_div_eq_div_mul]; omega
theorem dd_m (M i : Nat) : M % 10 ^ (i + 1) = M % 10 ^ i + 10 ^ i * (M / 10 ^ i % 10) := by
  rw [Nat.pow_succ, Nat.mod_mul]
theorem dd_le {a b : Nat} (h : a ≤ b) : 10 ^ a ≤ 10 ^ b := Nat.pow_le_pow_right (by decide) h
theorem dd_lt {a b : Nat} (h : a < b) : 10 ^ a < 10 ^ b := Nat.pow_lt_pow_right (by decide) h
theorem dd_rv {a b : Nat} (h : 10 ^ a < 10 ^ b) : a < b := by
  by_cases c : a < b
  · exact c
  · have := dd_le (a := b) (b := a) (by omega); omega
end
section
/-- Y: begin, put, tidy -/
theorem ya_begin1 (post : SY → Prop) (w pr mo fl lo ne mr : Int32) (co ex : Nat → Int32)
    (h : ∀ di' : Nat → Int32, (∀ i, i < 128 → di' i = 0) → post (pr, mo, fl, w, 0, 0, co, ex, di')) :
    ∀ (d j : Nat) (di : Nat → Int32), j + d = 128 → (∀ i, i < j → di i = 0) → wY_begin_2 post w pr mo fl lo ne mr (d + 1) (sI_ (j : Int)) co ex di := by
  intro d
  induction d with
  | zero =>
    intro j di hj hd
    exact sI_bLe 128 j (fun _ => h di (fun i hi => hd i (by omega))) (fun hh => by omega)
  | succ d ih =>
    intro j di hj hd
    refine sI_bLe 128 j (fun hh => by omega) (fun hh => ⟨sI_in (by omega) (by omega), nm_e (nm_r (sI_add j 1) ?_)⟩)
    rw [sI_cl (by omega)]
    refine ih (j + 1) _ (by omega) (fun i hi => ?_)
    by_cases c : i = j
    · subst c; exact dv_us _ _ _
    · rw [dv_un _ _ c]; exact hd i (by omega)
theorem ya_begin {post : SY → Prop} {w pr mo fl lo ne mr : Int32} {co ex di : Nat → Int32}
    (h : ∀ di' : Nat → Int32, (∀ i, i < 128 → di' i = 0) → post (pr, mo, fl, w, 0, 0, co, ex, di')) :
    wpY_begin post (pr, mo, fl, lo, ne, mr, co, ex, di) w :=
  ⟨129, ya_begin1 post w pr mo fl lo ne mr co ex h 128 0 di rfl (fun i hi => by omega)⟩
theorem ya_td10 (v : Int) : v = v.tdiv 10 * 10 + v.tmod 10 := (Int.tdiv_mul_add_tmod v 10).symm
theorem ya_tm10 (v : Int) : -9 ≤ v.tmod 10 ∧ v.tmod 10 ≤ 9 := by
  have h : (v.tmod 10).natAbs < 10 := by
    rw [Int.natAbs_tmod]; exact Nat.mod_lt _ (by decide)
  omega
theorem ya_put1 (post : SY → Prop) (pr mo fl lo ne mr : Int32) (co ex : Nat → Int32) (B : Int) (hB : B ≤ 1000) :
    ∀ (d : Nat) (v : Int) (j : Nat) (di : Nat → Int32), v.natAbs < 10 ^ d → d ≤ 18 → j + d ≤ 128 →
    (∀ i, i < j → i < 128 → -B - 9 ≤ (di i).toInt ∧ (di i).toInt ≤ B + 9) → (∀ i, j ≤ i → i < 128 → -B ≤ (di i).toInt ∧ (di i).toInt ≤ B) → 
    (∀ di' : Nat → Int32, (∀ i, i < 128 → -B - 9 ≤ (di' i).toInt ∧ (di' i).toInt ≤ B + 9) → dv_ di' 128 = dv_ di 128 + v * 10 ^ j → (∀ i, i < j → di' i = di i) → post (pr, mo, fl, lo, ne, mr, co, ex, di')) →
    wY_put_11 post pr mo fl lo ne mr (d + 1) (sL_ v) (sI_ (j : Int)) co ex di := by
  intro d
  induction d with
  | zero =>
    intro v j di hv _ hj hl hh h
    have v0 : v = 0 := by omega
    subst v0
    have k : post (pr, mo, fl, lo, ne, mr, co, ex, di) := h di (fun i hi => by
      by_cases c : i < j
      · exact hl i c hi
      · have := hh i (by omega) hi; omega) (by omega) (fun _ _ => rfl)
    exact sI_bLt j 0 (fun _ => k) (fun _ => sI_bLe 128 j (fun _ => k) (fun _ => sL_bEq 0 0 (fun _ => k) (fun e => absurd rfl e)))
  | succ d ih =>
    intro v j di hv hd hj hl hh h
    have hp : 10 ^ (d + 1) ≤ 10 ^ 18 := dd_le (by omega)
    have hj0 := hh j (Nat.le_refl j) (by omega)
    have hm := ya_tm10 v
    have hq := ya_td10 v
    refine sI_bLt j 0 (fun _ => by omega) (fun _ => sI_bLe 128 j (fun _ => by omega) (fun _ => sL_bEq v 0 (fun e => ?_) (fun e => ?_)))
    · subst e
      exact h di (fun i hi => by
        by_cases c : i < j
        · exact hl i c hi
        · have := hh i (by omega) hi; omega) (by omega) (fun _ _ => rfl)
    · refine ⟨sI_in (by omega) (by omega), sL_10, sI_in (by omega) (by omega), nm_e ⟨sL_10, nm_r (sL_div10 (a := v) (by omega)) (nm_r (sI_add j 1) ?_)⟩⟩
      rw [sL_rem10 (by omega), sL_i, sI_cl (by omega)]
      have hx : ((di j) + sI_ (v.tmod 10)).toInt = (di j).toInt + v.tmod 10 := by
        conv => lhs; rw [← sI_self (di j), sI_add]
        exact sI_t (by omega) (by omega)
      refine ih (v.tdiv 10) (j + 1) _ ?_ (by omega) (by omega) ?_ ?_ ?_
      · rw [Int.natAbs_tdiv]
        rw [Nat.pow_succ] at hv
        exact Nat.div_lt_of_lt_mul (by rw [Nat.mul_comm]; exact hv)
      · intro i hi hi2
        by_cases c : i = j
        · subst c; rw [dv_us, hx]; omega
        · rw [dv_un _ _ c]; exact hl i (by omega) hi2
      · intro i hi hi2
        rw [dv_un _ _ (by omega)]; exact hh i (by omega) hi2
      · intro di' h1 h2 h3
        refine h di' h1 ?_ (fun i hi => ?_)
        · rw [h2, dv_ult _ _ (by omega), hx]
          have : v * 10 ^ j = (v.tdiv 10 * 10 + v.tmod 10) * 10 ^ j := by rw [← hq]
          grind
        · rw [h3 i (by omega), dv_un _ _ (by omega)]
theorem ya_put {post : SY → Prop} {pr mo fl lo ne mr x : Int32} {co ex di : Nat → Int32} {z : Int64} (B : Int) (d : Nat) (v : Int) (j : Nat)
    (h : ∀ di' : Nat → Int32, (∀ i, i < 128 → -B - 9 ≤ (di' i).toInt ∧ (di' i).toInt ≤ B + 9) → dv_ di' 128 = dv_ di 128 + v * 10 ^ j → (∀ i, i < j → di' i = di i) → post (pr, mo, fl, lo, ne, mr, co, ex, di'))
    (hz : z = sL_ v) (hx : x - lo = sI_ (j : Int)) (hv : v.natAbs < 10 ^ d) (hd : d ≤ 18) (hj : j + d ≤ 128)
    (hB : 0 ≤ B ∧ B ≤ 1000) (hh : ∀ i, i < 128 → -B ≤ (di i).toInt ∧ (di i).toInt ≤ B) :
    wpY_put post (pr, mo, fl, lo, ne, mr, co, ex, di) z x := by
  subst hz
  refine nm_r hx ⟨d + 1, ya_put1 post pr mo fl lo ne mr co ex B hB.2 d v j di hv hd hj (fun i _ hi => ?_) (fun i _ hi => hh i hi) h⟩
  have := hh i hi; omega
end
section
/-- Y: tidy -/
theorem yt_flo {v : Int} (h : -1000 ≤ v ∧ v ≤ 1000) (h0 : v < 0) : ((9 - v).tdiv 10) = (9 - v) / 10 := Int.tdiv_eq_ediv_of_nonneg (by omega)
theorem yt_2 (post : SY → Prop) (pr mo fl lo ne mr : Int32) (co ex e : Nat → Int32) (he : ∀ i, i < 128 → 0 ≤ (e i).toInt ∧ (e i).toInt ≤ 9)
    (h : ∀ (c : Int) (di' : Nat → Int32), 0 ≤ c → c ≤ 1 → (∀ i, i < 128 → 0 ≤ (di' i).toInt ∧ (di' i).toInt ≤ 9) → dv_ di' 128 + c * 10 ^ 128 = 10 ^ 128 - dv_ e 128 → post (pr, mo, fl, lo, ne, mr, co, ex, di')) :
    ∀ (d j : Nat) (c : Int) (di : Nat → Int32), j + d = 128 → 0 ≤ c → c ≤ 1 → (∀ i, i < j → 0 ≤ (di i).toInt ∧ (di i).toInt ≤ 9) → (∀ i, j ≤ i → i < 128 → di i = e i) →
    dv_ di j + c * 10 ^ j = 10 ^ j - dv_ e j →
    wY_tidy_72 post pr mo fl lo ne mr (d + 1) (sI_ c) (sI_ (j : Int)) co ex di := by
  intro d
  induction d with
  | zero =>
    intro j c di hj c0 c1 h1 h2 h3
    have : j = 128 := by omega
    subst this
    exact sI_bLe 128 ((128 : Nat) : Int) (fun _ => h c di c0 c1 h1 h3) (fun hh => by omega)
  | succ d ih =>
    intro j c di hj c0 c1 h1 h2 h3
    have hj' : j < 128 := by omega
    obtain ⟨a, b⟩ := he j hj'
    have hv : 9 - sI_ ((e j).toInt) + sI_ c = sI_ (9 - (e j).toInt + c) := by
      rw [show (9 : Int32) = sI_ 9 from rfl, sI_sub, sI_add]
    generalize hV : 9 - (e j).toInt + c = V at hv
    have hV0 : 0 ≤ V ∧ V ≤ 10 := by omega
    refine sI_bLe 128 j (fun hh => by omega) (fun _ => ⟨sI_in hj' (by omega), ?_⟩)
    rw [sI_cl (by omega), h2 j (Nat.le_refl j) hj', ← sI_self (e j)]
    refine nm_r hv ⟨sI_10, nm_r (sI_div10 (a := V) (by omega)) ⟨sI_10, sI_in hj' (by omega), nm_e (nm_r (sI_add j 1) ?_)⟩⟩
    rw [sI_rem10 (by omega), Int.tdiv_eq_ediv_of_nonneg hV0.1, Int.tmod_eq_emod_of_nonneg hV0.1]
    have hx : (sI_ (V % 10)).toInt = V % 10 := sI_t (by omega) (by omega)
    refine ih (j + 1) (V / 10) _ (by omega) (by omega) (by omega) ?_ ?_ ?_
    · intro i hi
      by_cases q : i = j
      · subst q; rw [dv_us, hx]; omega
      · rw [dv_un _ _ q]; exact h1 i (by omega)
    · intro i hi hi2
      rw [dv_un _ _ (by omega)]; exact h2 i (by omega) hi2
    · rw [dv_s, dv_s, dv_us, dv_uge _ _ (Nat.le_refl j), hx, Int.pow_succ]
      have hd : V % 10 = V - 10 * (V / 10) := by omega
      rw [hd]
      subst hV
      grind
theorem yt_1 (post : SY → Prop) (pr mo fl lo ne mr : Int32) (co ex : Nat → Int32) (V : Int)
    (h : ∀ (c : Int) (di' : Nat → Int32), -20 ≤ c → c ≤ 20 → 0 ≤ c → (∀ i, i < 128 → 0 ≤ (di' i).toInt ∧ (di' i).toInt ≤ 9) → dv_ di' 128 + c * 10 ^ 128 = V → post (pr, mo, fl, lo, ne, mr, co, ex, di'))
    (g : ∀ (c : Int) (di' : Nat → Int32), c < 0 → (∀ i, i < 128 → 0 ≤ (di' i).toInt ∧ (di' i).toInt ≤ 9) → dv_ di' 128 + c * 10 ^ 128 = V → ∃ n72 : Nat, wY_tidy_72 post pr mo fl lo 1 mr n72 1 0 co ex di') :
    ∀ (d j : Nat) (c : Int) (di : Nat → Int32), j + d = 128 → -20 ≤ c → c ≤ 20 → (∀ i, i < j → 0 ≤ (di i).toInt ∧ (di i).toInt ≤ 9) → (∀ i, j ≤ i → i < 128 → -50 ≤ (di i).toInt ∧ (di i).toInt ≤ 50) →
    dv_ di 128 + c * 10 ^ j = V →
    wY_tidy_4 post pr mo fl lo ne mr (d + 1) (sI_ c) (sI_ (j : Int)) co ex di := by
  intro d
  induction d with
  | zero =>
    intro j c di hj c0 c1 h1 h2 h3
    have : j = 128 := by omega
    subst this
    exact sI_bLe 128 ((128 : Nat) : Int) (fun _ => sI_bLt c 0 (fun hc => g c di hc h1 h3) (fun hc => h c di c0 c1 hc h1 h3)) (fun hh => by omega)
  | succ d ih =>
    intro j c di hj c0 c1 h1 h2 h3
    have hj' : j < 128 := by omega
    obtain ⟨a, b⟩ := h2 j (Nat.le_refl j) hj'
    have hv : sI_ ((di j).toInt) + sI_ c = sI_ ((di j).toInt + c) := sI_add _ _
    generalize hW : (di j).toInt + c = W at hv
    have hW0 : -70 ≤ W ∧ W ≤ 70 := by omega
    have key : ∀ q : Int, q = W / 10 → wY_tidy_39 post (wY_tidy_4 post pr mo fl lo ne mr (d + 1)) (sI_ (j : Int)) (sI_ W) (sI_ q) pr mo fl lo ne mr co ex di := by
      intro q hq
      refine ⟨sI_in hj' (by omega), nm_e (nm_r (sI_add j 1) ?_)⟩
      rw [sI_cl (by omega), show (10 : Int32) = sI_ 10 from rfl, sI_mul, sI_sub]
      have hx : (sI_ (W - 10 * q)).toInt = W - 10 * q := sI_t (by omega) (by omega)
      refine ih (j + 1) q _ (by omega) (by omega) (by omega) ?_ ?_ ?_
      · intro i hi
        by_cases c : i = j
        · subst c; rw [dv_us, hx]; omega
        · rw [dv_un _ _ c]; exact h1 i (by omega)
      · intro i hi hi2
        rw [dv_un _ _ (by omega)]; exact h2 i (by omega) hi2
      · rw [dv_ult _ _ hj', hx, Int.pow_succ, ← h3]
        subst hW
        grind
    refine sI_bLe 128 j (fun hh => by omega) (fun _ => ⟨sI_in hj' (by omega), ?_⟩)
    rw [sI_cl (by omega)]
    rw [show di j + sI_ c = sI_ W from by rw [← hv, sI_self]]
    refine nm_e (sI_bLe 0 W (fun hw => ⟨sI_10, ?_⟩) (fun hw => ⟨sI_10, ?_⟩))
    · rw [sI_div10 (by omega), Int.tdiv_eq_ediv_of_nonneg hw]
      exact key _ rfl
    · rw [show (9 : Int32) = sI_ 9 from rfl, sI_sub, sI_div10 (by omega), yt_flo (by omega) hw, sI_neg]
      exact key _ (by omega)
theorem yt_tidy {post : SY → Prop} {pr mo fl lo mr : Int32} {co ex di : Nat → Int32} (ne : Bool) (V : Int)
    (hV : dv_ di 128 = V) (hb : V.natAbs < 10 ^ 128) (hd : ∀ i, i < 128 → -50 ≤ (di i).toInt ∧ (di i).toInt ≤ 50)
    (h : ∀ di' : Nat → Int32, dg_ di' V.natAbs → post (pr, mo, fl, lo, bI_ (ne || decide (V < 0)), mr, co, ex, di')) :
    wpY_tidy post (pr, mo, fl, lo, bI_ ne, mr, co, ex, di) := by
  have hb1 : -10 ^ 128 < V ∧ V < (10 : Int) ^ 128 := by
    rw [← tc_]; generalize 10 ^ 128 = T at *; omega
  refine ⟨129, yt_1 post pr mo fl lo (bI_ ne) mr co ex V ?_ ?_ 128 0 0 di rfl (by omega) (by omega) (fun i hi => by omega) (fun i _ hi => hd i hi) ?_⟩
  · intro c di' _ _ c0 h1 h2
    have ⟨p, q⟩ := dv_rng h1
    have c1 : c = 0 := by
      by_cases z : 1 ≤ c
      · have := Int.mul_le_mul_of_nonneg_right z (Int.le_of_lt (tp_ 128))
        generalize (10 : Int) ^ 128 = T at *
        generalize c * T = cT at *
        omega
      · omega
    subst c1
    have v0 : 0 ≤ V := by omega
    have := h di' (dg_of h1 (by omega))
    rw [show decide (V < 0) = false from decide_eq_false (by omega), Bool.or_false] at this
    exact this
  · intro c di' c0 h1 h2
    have ⟨p, q⟩ := dv_rng h1
    have c1 : c = -1 := by
      by_cases z : c ≤ -2
      · have := Int.mul_le_mul_of_nonneg_right z (Int.le_of_lt (tp_ 128))
        generalize (10 : Int) ^ 128 = T at *
        generalize c * T = cT at *
        omega
      · omega
    subst c1
    have v0 : V < 0 := by
      generalize (10 : Int) ^ 128 = T at *
      omega
    refine ⟨129, yt_2 post pr mo fl lo 1 mr co ex di' h1 ?_ 128 0 1 di' rfl (by omega) (by omega) (fun i hi => by omega) (fun _ _ _ => rfl) (by rfl)⟩
    intro c e' c0 c1 h3 h4
    have ⟨p', q'⟩ := dv_rng h3
    have c2 : c = 0 := by
      by_cases z : 1 ≤ c
      · have := Int.mul_le_mul_of_nonneg_right z (Int.le_of_lt (tp_ 128))
        generalize (10 : Int) ^ 128 = T at *
        generalize c * T = cT at *
        omega
      · omega
    subst c2
    have := h e' (dg_of h3 (by generalize (10 : Int) ^ 128 = T at *; omega))
    rw [show decide (V < 0) = true from decide_eq_true v0, Bool.or_true] at this
    exact this
  · rw [hV]; omega
end
section
/-- Y: top, bottom, part over the digits of M -/
theorem ys_ne {n : Nat} {A B : Prop} (h : n < 2147483648) (f : n = 0 → A) (g : n ≠ 0 → B) : (sI_ (n : Int) = 0 → A) ∧ (¬ sI_ (n : Int) = 0 → B) :=
  sI_bEq (n : Int) 0 (fun e => f (by omega)) (fun e => g (by omega))
theorem ys_top1 (post : Int32 → Prop) (pr mo fl lo ne mr : Int32) (co ex di : Nat → Int32) {M : Nat} (D : dg_ di M)
    (h0 : M = 0 → post (-1)) (h1 : ∀ t : Nat, t < 128 → 10 ^ t ≤ M → M < 10 ^ (t + 1) → post (sI_ (t : Int))) :
    ∀ d : Nat, d ≤ 128 → M < 10 ^ d → wY_top_3 post pr mo fl lo ne mr co ex di (d + 1) (sI_ ((d : Int) - 1)) := by
  intro d
  induction d with
  | zero =>
    intro _ hM
    exact sI_bLt (((0 : Nat) : Int) - 1) 0 (fun _ => h0 (by omega)) (fun hh => by omega)
  | succ d ih =>
    intro hd hM
    have e : sI_ (((d + 1 : Nat) : Int) - 1) = sI_ (d : Int) := by rw [show ((d + 1 : Nat) : Int) - 1 = (d : Int) from by omega]
    rw [e]
    refine sI_bLt (d : Int) 0 (fun hh => by omega) (fun _ => ⟨sI_in (by omega) (by omega), ?_⟩)
    rw [sI_cl (by omega), D d (by omega)]
    rw [Nat.pow_succ] at hM
    have hq : M / 10 ^ d < 10 := Nat.div_lt_of_lt_mul (by rw [Nat.mul_comm] at hM; rw [Nat.mul_comm]; exact hM)
    have hT := tn_ d
    refine ys_ne (by omega) (fun z => nm_r (sI_m1 (d : Int)) (ih (by omega) ?_)) (fun z => h1 d (by omega) ?_ ?_)
    · have : M / 10 ^ d = 0 := by generalize M / 10 ^ d = q at hq z ⊢; omega
      exact (Nat.div_eq_zero_iff_lt hT).1 this
    · have : 1 ≤ M / 10 ^ d := by generalize M / 10 ^ d = q at hq z ⊢; omega
      have := (Nat.le_div_iff_mul_le hT).1 this
      omega
    · rw [Nat.pow_succ]; exact hM
theorem ys_top {post : Int32 → Prop} {pr mo fl lo ne mr : Int32} {co ex di : Nat → Int32} {M : Nat} (D : dg_ di M) (hM : M < 10 ^ 128)
    (h0 : M = 0 → post (-1)) (h1 : ∀ t : Nat, t < 128 → 10 ^ t ≤ M → M < 10 ^ (t + 1) → post (sI_ (t : Int))) :
    wpY_top post (pr, mo, fl, lo, ne, mr, co, ex, di) :=
  ⟨129, ys_top1 post pr mo fl lo ne mr co ex di D h0 h1 128 (by omega) hM⟩
theorem ys_bot1 (post : Int32 → Prop) (pr mo fl lo ne mr : Int32) (co ex di : Nat → Int32) {M : Nat} (D : dg_ di M) (hM : M < 10 ^ 128) (h0 : M ≠ 0)
    (h1 : ∀ t : Nat, t < 128 → M % 10 ^ t = 0 → M % 10 ^ (t + 1) ≠ 0 → post (sI_ (t : Int))) :
    ∀ d j : Nat, j + d = 128 → M % 10 ^ j = 0 → wY_bottom_2 post pr mo fl lo ne mr co ex di (d + 1) (sI_ (j : Int)) := by
  intro d
  induction d with
  | zero =>
    intro j hj hz
    have : j = 128 := by omega
    subst this
    rw [Nat.mod_eq_of_lt hM] at hz
    exact absurd hz h0
  | succ d ih =>
    intro j hj hz
    refine sI_bLe 128 (j : Int) (fun hh => by omega) (fun _ => ⟨sI_in (by omega) (by omega), ?_⟩)
    rw [sI_cl (by omega), D j (by omega)]
    have hs := dd_m M j
    have hT := tn_ j
    refine ys_ne (by omega) (fun z => nm_r (sI_add j 1) (ih (j + 1) (by omega) ?_)) (fun z => h1 j (by omega) hz ?_)
    · rw [hs, hz, z]; rfl
    · rw [hs, hz]
      have := Nat.mul_pos hT (Nat.pos_of_ne_zero z)
      omega
theorem ys_bot {post : Int32 → Prop} {pr mo fl lo ne mr : Int32} {co ex di : Nat → Int32} {M : Nat} (D : dg_ di M) (hM : M < 10 ^ 128) (h0 : M ≠ 0)
    (h1 : ∀ t : Nat, t < 128 → M % 10 ^ t = 0 → M % 10 ^ (t + 1) ≠ 0 → post (sI_ (t : Int))) :
    wpY_bottom post (pr, mo, fl, lo, ne, mr, co, ex, di) :=
  ⟨129, ys_bot1 post pr mo fl lo ne mr co ex di D hM h0 h1 128 0 rfl (Nat.mod_one M)⟩
theorem ys_part1 (post : Int64 → Prop) (pr mo fl lo ne mr : Int32) (co ex di : Nat → Int32) {M : Nat} (D : dg_ di M) (f : Nat) (hf : f < 128) (hq : M / 10 ^ f < 10 ^ 18)
    (h : post (sL_ ((M / 10 ^ f : Nat) : Int))) :
    ∀ d : Nat, f + d ≤ 128 → wY_part_5 post (sI_ (f : Int)) pr mo fl lo ne mr co ex di (d + 1) (sL_ ((M / 10 ^ (f + d) : Nat) : Int)) (sI_ ((f + d : Nat) - 1 : Int)) := by
  intro d
  induction d with
  | zero =>
    intro _
    exact sI_bLt (((f + 0 : Nat) : Int) - 1) (f : Int) (fun _ => h) (fun hh => by omega)
  | succ d ih =>
    intro hd
    have e : sI_ (((f + (d + 1) : Nat) : Int) - 1) = sI_ ((f + d : Nat) : Int) := by rw [show ((f + (d + 1) : Nat) : Int) - 1 = ((f + d : Nat) : Int) from by omega]
    rw [e]
    refine sI_bLt ((f + d : Nat) : Int) (f : Int) (fun hh => by omega) (fun _ => sI_bLt ((f + d : Nat) : Int) 0 (fun hh => by omega) (fun _ => ⟨sI_in (by omega) (by omega), ?_⟩))
    rw [sI_cl (by omega), D (f + d) (by omega), sI_l (by omega) (by omega), show (10 : Int64) = sL_ 10 from rfl, sL_mul, sL_add]
    have hs := dd_s M (f + d)
    rw [show ((M / 10 ^ (f + (d + 1)) : Nat) : Int) * 10 + ((M / 10 ^ (f + d) % 10 : Nat) : Int) = ((M / 10 ^ (f + d) : Nat) : Int) from by
      rw [← Nat.add_assoc]; omega]
    exact nm_e (nm_r (sI_m1 ((f + d : Nat) : Int)) (ih (by omega)))
theorem ys_part {post : Int64 → Prop} {pr mo fl lo ne mr : Int32} {co ex di : Nat → Int32} {M : Nat} (D : dg_ di M) (f t : Nat) (ht : f ≤ t) (h1 : t < 128) (hM : M < 10 ^ (t + 1)) (hq : M / 10 ^ f < 10 ^ 18)
    (h : post (sL_ ((M / 10 ^ f : Nat) : Int))) :
    wpY_part post (pr, mo, fl, lo, ne, mr, co, ex, di) (sI_ (f : Int)) (sI_ (t : Int)) := by
  have k := ys_part1 post pr mo fl lo ne mr co ex di D f (by omega) hq h (t + 1 - f) (by omega)
  rw [show f + (t + 1 - f) = t + 1 from by omega, Nat.div_eq_of_lt hM, show ((t + 1 : Nat) : Int) - 1 = (t : Int) from by omega] at k
  exact ⟨_, k⟩
end
section
/-- whether the last kept digit goes up: R of U (and a bit more, if more) is cut off, q is kept -/
def ru_ (mode : Nat) (neg : Bool) (q R U : Nat) (more : Bool) : Bool :=
  if R = 0 ∧ more = false then false
  else if mode = 0 then decide (U < 2 * R ∨ (2 * R = U ∧ (more = true ∨ q % 2 = 1)))
  else if mode = 1 then decide (U ≤ 2 * R)
  else if mode = 2 then false
  else if mode = 3 then true
  else if mode = 4 then neg
  else if mode = 5 then !neg
  else decide (U < 2 * R ∨ (2 * R = U ∧ more = true))
theorem yu_101 (post : Int32 → Prop) (pr fl lo mr : Int32) (co ex di : Nat → Int32) (mode : Nat) (hm : mode ≤ 6) (neg odd ov hf : Bool)
    (h : post (bI_ (if mode = 0 then (ov || (hf && odd)) else if mode = 1 then (ov || hf) else if mode = 2 then false else if mode = 3 then true else if mode = 4 then neg else if mode = 5 then !neg else ov))) :
    wY_up_101 post (bI_ odd) (bI_ ov) (bI_ hf) pr (sI_ (mode : Int)) fl lo (bI_ neg) mr co ex di := by
  have cs : mode = 0 ∨ mode = 1 ∨ mode = 2 ∨ mode = 3 ∨ mode = 4 ∨ mode = 5 ∨ mode = 6 := by omega
  unfold wY_up_101
  rcases cs with e | e | e | e | e | e | e <;> subst e
  · refine br_t (by decide) (bI_br ov (fun e1 => bI_br hf (fun e2 => ?_) (fun e2 => bI_br odd (fun e3 => ?_) (fun e3 => ?_))) (fun e1 => ?_))
    · subst e1 e2; exact h
    · subst e1 e2 e3; exact h
    · subst e1 e2 e3; exact h
    · subst e1; exact h
  · refine br_f (by decide) (br_t (by decide) (bI_br ov (fun e1 => bI_br hf (fun e2 => ?_) (fun e2 => ?_)) (fun e1 => ?_)))
    · subst e1 e2; exact h
    · subst e1 e2; exact h
    · subst e1; exact h
  · exact br_f (by decide) (br_f (by decide) (br_t (by decide) h))
  · exact br_f (by decide) (br_f (by decide) (br_f (by decide) (br_t (by decide) h)))
  · exact br_f (by decide) (br_f (by decide) (br_f (by decide) (br_f (by decide) (br_t (by decide) ⟨bI_n neg, h⟩))))
  · refine br_f (by decide) (br_f (by decide) (br_f (by decide) (br_f (by decide) (br_f (by decide) (br_t (by decide) (bI_br neg (fun e1 => ?_) (fun e1 => ?_)))))))
    · subst e1; exact h
    · subst e1; exact h
  · exact br_f (by decide) (br_f (by decide) (br_f (by decide) (br_f (by decide) (br_f (by decide) (br_f (by decide) ⟨bI_n ov, h⟩)))))
theorem yu_63 (post : Int32 → Prop) (x2 pr mo fl lo ne mr : Int32) (co ex di : Nat → Int32) (a : Bool) (N : Nat) (hN : N < 10)
    (h : wY_up_101 post x2 (bI_ (decide (5 < N) || (decide (N = 5) && a))) (bI_ (decide (N = 5) && !a)) pr mo fl lo ne mr co ex di) :
    wY_up_63 post x2 (bI_ a) (sI_ (N : Int)) pr mo fl lo ne mr co ex di := by
  unfold wY_up_63
  refine sI_bLt 5 (N : Int) (fun g => ?_) (fun g => sI_bEq (N : Int) 5 (fun g5 => bI_br a (fun ea => ?_) (fun ea => ?_)) (fun g5 => ?_))
  · unfold wY_up_79 wY_up_84
    refine br_f (fun e => by have := (sI_eqI (a := N) (b := 5) (by omega) (by omega)).1 e; omega) ?_
    rw [show decide (5 < N) = true from decide_eq_true (by omega), show decide (N = 5) = false from decide_eq_false (by omega)] at h
    exact h
  · have e5 : N = 5 := by omega
    subst e5 ea
    exact br_t rfl (br_t rfl h)
  · have e5 : N = 5 := by omega
    subst e5 ea
    exact br_t rfl (br_f (by decide) h)
  · unfold wY_up_83 wY_up_84
    refine br_f (fun e => g5 ((sI_eqI (a := N) (b := 5) (by omega) (by omega)).1 e)) ?_
    rw [show decide (5 < N) = false from decide_eq_false (by omega), show decide (N = 5) = false from decide_eq_false (by omega)] at h
    exact h
/-- the digit after the cut and the rest below it, against a half -/
theorem yu_half {R N L T : Nat} (hR : R = L + T * N) (hL : L < T) (hN : N < 10) :
    (5 < N ∨ (N = 5 ∧ L ≠ 0) ↔ 10 * T < 2 * R) ∧ (N = 5 ∧ L = 0 ↔ 2 * R = 10 * T) ∧ (N = 0 ∧ L = 0 ↔ R = 0) := by
  have cs : N = 0 ∨ N = 1 ∨ N = 2 ∨ N = 3 ∨ N = 4 ∨ N = 5 ∨ N = 6 ∨ N = 7 ∨ N = 8 ∨ N = 9 := by omega
  rcases cs with e | e | e | e | e | e | e | e | e | e <;> subst e <;> refine ⟨⟨?_, ?_⟩, ⟨?_, ?_⟩, ⟨?_, ?_⟩⟩ <;> omega
end
section
/-- Y: up -/
theorem yv_ov {R N L T : Nat} (more : Bool) (hR : R = L + T * N) (hL : L < T) (hN : N < 10) :
    (decide (5 < N) || (decide (N = 5) && (more || decide (L ≠ 0)))) = decide (10 * T < 2 * R ∨ (2 * R = 10 * T ∧ more = true)) ∧
    (decide (N = 5) && !(more || decide (L ≠ 0))) = decide (2 * R = 10 * T ∧ more = false) := by
  obtain ⟨h1, h2, h3⟩ := yu_half hR hL hN
  cases more
  · refine ⟨?_, ?_⟩
    · rw [Bool.eq_iff_iff]
      simp only [Bool.false_or, Bool.or_eq_true, Bool.and_eq_true, decide_eq_true_eq, Bool.false_eq_true, and_false, or_false]
      exact h1
    · rw [Bool.eq_iff_iff]
      simp only [Bool.false_or, Bool.and_eq_true, Bool.not_eq_true', decide_eq_false_iff_not, decide_eq_true_eq, and_true, Decidable.not_not]
      exact h2
  · refine ⟨?_, ?_⟩
    · rw [Bool.eq_iff_iff]
      simp only [Bool.true_or, Bool.or_eq_true, Bool.and_eq_true, decide_eq_true_eq, and_true]
      constructor
      · intro g
        by_cases z : L = 0
        · rcases g with g | g
          · exact Or.inl (h1.1 (Or.inl g))
          · exact Or.inr (h2.1 ⟨g, z⟩)
        · rcases g with g | g
          · exact Or.inl (h1.1 (Or.inl g))
          · exact Or.inl (h1.1 (Or.inr ⟨g, z⟩))
      · intro g
        rcases g with g | g
        · rcases h1.2 g with g | g
          · exact Or.inl g
          · exact Or.inr g.1
        · exact Or.inr (h2.2 g).1
    · rw [Bool.eq_iff_iff]
      simp
theorem yv_ru {R U : Nat} (mode : Nat) (neg more : Bool) (q : Nat) (h0 : ¬ (R = 0 ∧ more = false)) :
    (if mode = 0 then (decide (U < 2 * R ∨ (2 * R = U ∧ more = true)) || (decide (2 * R = U ∧ more = false) && decide (q % 2 = 1))) else if mode = 1 then (decide (U < 2 * R ∨ (2 * R = U ∧ more = true)) || decide (2 * R = U ∧ more = false)) else if mode = 2 then false else if mode = 3 then true else if mode = 4 then neg else if mode = 5 then !neg else decide (U < 2 * R ∨ (2 * R = U ∧ more = true))) = ru_ mode neg q R U more := by
  unfold ru_
  rw [if_neg h0]
  by_cases m0 : mode = 0
  · rw [if_pos m0, if_pos m0, Bool.eq_iff_iff]
    simp only [Bool.or_eq_true, Bool.and_eq_true, decide_eq_true_eq]
    cases more <;> simp <;> omega
  · rw [if_neg m0, if_neg m0]
    by_cases m1 : mode = 1
    · rw [if_pos m1, if_pos m1, Bool.eq_iff_iff]
      simp only [Bool.or_eq_true, Bool.and_eq_true, decide_eq_true_eq]
      cases more <;> simp <;> omega
    · rw [if_neg m1, if_neg m1]
theorem yv_50 (post : Int32 → Prop) (pr fl lo mr : Int32) (co ex di : Nat → Int32) (mode : Nat) (hm : mode ≤ 6) (neg more : Bool) {R N L T : Nat} (q : Nat)
    (hR : R = L + T * N) (hL : L < T) (hN : N < 10) (h : post (bI_ (ru_ mode neg q R (10 * T) more))) :
    wY_up_50 post (bI_ (decide (q % 2 = 1))) (bI_ (more || decide (L ≠ 0))) (sI_ (N : Int)) pr (sI_ (mode : Int)) fl lo (bI_ neg) mr co ex di := by
  obtain ⟨h1, h2⟩ := yv_ov more hR hL hN
  have h3 := (yu_half hR hL hN).2.2
  have k : ¬ (R = 0 ∧ more = false) → wY_up_63 post (bI_ (decide (q % 2 = 1))) (bI_ (more || decide (L ≠ 0))) (sI_ (N : Int)) pr (sI_ (mode : Int)) fl lo (bI_ neg) mr co ex di := by
    intro h0
    refine yu_63 _ _ _ _ _ _ _ _ _ _ _ _ N hN ?_
    rw [h1, h2]
    refine yu_101 post pr fl lo mr co ex di mode hm neg _ _ _ ?_
    rw [yv_ru mode neg more q h0]
    exact h
  unfold wY_up_50
  refine ys_ne (by omega) (fun z => bI_br _ (fun z2 => ?_) (fun z2 => k ?_)) (fun z => k ?_)
  · rw [Bool.or_eq_false_iff, decide_eq_false_iff_not] at z2
    have : ru_ mode neg q R (10 * T) more = false := by
      unfold ru_
      rw [if_pos ⟨h3.1 ⟨z, by omega⟩, z2.1⟩]
    rw [this] at h
    exact h
  · intro c
    have := h3.2 c.1
    rw [c.2, decide_eq_false (by omega)] at z2
    exact absurd z2 (by decide)
  · intro c
    exact z (h3.2 c.1).1
theorem yv_up1 (post : Int32 → Prop) (pr fl lo mr : Int32) (co ex di : Nat → Int32) (mode : Nat) (hm : mode ≤ 6) (neg more : Bool) {M : Nat} (D : dg_ di M) (q i : Nat) (hi : i < 128)
    (h : post (bI_ (ru_ mode neg q (M % 10 ^ (i + 1)) (10 ^ (i + 1)) more))) :
    ∀ d k : Nat, k + d = i → wY_up_8 post (sI_ ((i + 1 : Nat) : Int)) (bI_ (decide (q % 2 = 1))) pr (sI_ (mode : Int)) fl lo (bI_ neg) mr co ex di (d + 1) (bI_ (more || decide (M % 10 ^ k ≠ 0))) (sI_ (k : Int)) := by
  have e1 : sI_ ((i + 1 : Nat) : Int) - 1 = sI_ (i : Int) := by
    rw [show (1 : Int32) = sI_ 1 from rfl, sI_sub, show ((i + 1 : Nat) : Int) - 1 = (i : Int) from by omega]
  intro d
  induction d with
  | zero =>
    intro k hk
    have : k = i := by omega
    subst this
    show (_ ∧ _)
    rw [e1]
    refine br_t (Int32.le_refl _) (sI_bLe ((k + 1 : Nat) : Int) 0 (fun hh => by omega) (fun _ => ⟨sI_in hi (by omega), ?_⟩))
    rw [sI_cl (by omega), D k hi]
    refine yv_50 post pr fl lo mr co ex di mode hm neg more (R := M % 10 ^ (k + 1)) (T := 10 ^ k) q (dd_m M k) (Nat.mod_lt _ (tn_ k)) (Nat.mod_lt _ (by decide)) ?_
    rw [Nat.mul_comm, ← Nat.pow_succ]
    exact h
  | succ d ih =>
    intro k hk
    show (_ ∧ _)
    rw [e1]
    refine sI_bLe (i : Int) (k : Int) (fun hh => by omega) (fun _ => ⟨sI_in (by omega) (by omega), ?_⟩)
    rw [sI_cl (by omega), D k (by omega)]
    have hs := dd_m M k
    have hk1 := ih (k + 1) (by omega)
    refine ys_ne (by omega) (fun z => nm_r (sI_add k 1) ?_) (fun z => nm_r (sI_add k 1) ?_)
    · rw [hs, z, Nat.mul_zero, Nat.add_zero] at hk1
      exact hk1
    · have hp := Nat.mul_pos (tn_ k) (Nat.pos_of_ne_zero z)
      rw [decide_eq_true (show M % 10 ^ (k + 1) ≠ 0 from by rw [hs]; omega), Bool.or_true] at hk1
      exact hk1
theorem yv_up {post : Int32 → Prop} {pr fl lo : Int32} {co ex di : Nat → Int32} (mode : Nat) (hm : mode ≤ 6) (neg more : Bool) {M : Nat} (D : dg_ di M) (q i : Nat) (hi : i ≤ 128) (h0 : i = 0 → more = false)
    (h : post (bI_ (ru_ mode neg q (M % 10 ^ i) (10 ^ i) more))) :
    wpY_up post (pr, sI_ (mode : Int), fl, lo, bI_ neg, bI_ more, co, ex, di) (sI_ (i : Int)) (bI_ (decide (q % 2 = 1))) := by
  cases i with
  | zero =>
    rw [h0 rfl]
    have e : ru_ mode neg q (M % 10 ^ 0) (10 ^ 0) more = false := by
      unfold ru_
      rw [if_pos ⟨Nat.mod_one M, h0 rfl⟩]
    rw [e] at h
    exact ⟨1, br_t (by decide) (br_t (by decide) (br_t rfl (br_t rfl h)))⟩
  | succ i =>
    have k := yv_up1 post pr fl lo (bI_ more) co ex di mode hm neg more D q i (by omega) h i 0 (by omega)
    rw [Nat.pow_zero, Nat.mod_one, show decide ((0 : Nat) ≠ 0) = false from rfl, Bool.or_false] at k
    exact ⟨_, k⟩
end
section
/-- Y: digitsOf, keep -/
theorem yk_if {c d A B : Prop} (e : c ↔ d) (f : d → A) (g : ¬ d → B) : (c → A) ∧ (¬ c → B) :=
  ⟨fun h => f (e.1 h), fun h => g (fun k => h (e.2 k))⟩
theorem yk_ex (A : Nat) : ∀ d : Nat, A < 10 ^ (d + 1) → ∃ L : Nat, 1 ≤ L ∧ L ≤ d + 1 ∧ A < 10 ^ L ∧ ∀ j, 1 ≤ j → A < 10 ^ j → L ≤ j
  | 0, h => ⟨1, by omega, by omega, h, fun j hj _ => hj⟩
  | d + 1, h => by
    by_cases c : A < 10 ^ (d + 1)
    · obtain ⟨L, h1, h2, h3, h4⟩ := yk_ex A d c
      exact ⟨L, h1, by omega, h3, h4⟩
    · refine ⟨d + 2, by omega, by omega, h, fun j hj hA => ?_⟩
      by_cases e : d + 2 ≤ j
      · exact e
      · have := dd_le (a := j) (b := d + 1) (by omega)
        omega
theorem yk_dig1 (post : Int32 → Prop) (pr mo fl lo ne mr : Int32) (co ex di : Nat → Int32) (A L : Nat) (hA : A < 10 ^ 18) (hL1 : 1 ≤ L) (hL2 : L ≤ 18) (hL3 : A < 10 ^ L) (hL4 : ∀ j, 1 ≤ j → A < 10 ^ j → L ≤ j)
    (h : post (sI_ (L : Int))) :
    ∀ d k : Nat, k + d = 18 → wY_digitsOf_19 post pr mo fl lo ne mr co ex di (d + 1) (sL_ ((A / 10 ^ k : Nat) : Int)) (sI_ ((if k + 1 ≤ L then k + 1 else L : Nat) : Int)) (sI_ (k : Int)) := by
  intro d
  induction d with
  | zero =>
    intro k hk
    refine sI_bLe 18 (k : Int) (fun _ => ?_) (fun hh => by omega)
    rw [if_neg (by omega)]
    exact h
  | succ d ih =>
    intro k hk
    have hle : A / 10 ^ k ≤ A := Nat.div_le_self _ _
    have hn1 := Int.natCast_nonneg (A / 10 ^ k)
    have hn2 := Int.natCast_nonneg (A / 10 ^ (k + 1))
    have hlt : A / 10 ^ k < 10 ^ 18 := by omega
    have hdd : A / 10 ^ k / 10 = A / 10 ^ (k + 1) := by rw [Nat.pow_succ, Nat.div_div_eq_div_mul]
    have hx : sL_ ((A / 10 ^ k : Nat) : Int) / 10 = sL_ ((A / 10 ^ (k + 1) : Nat) : Int) := by
      rw [sL_div10 (by omega), ← hdd, Int.natCast_tdiv_eq_ediv]
      congr 1
    have hlt2 : A / 10 ^ (k + 1) < 10 ^ 18 := by
      have := Nat.div_le_self A (10 ^ (k + 1))
      omega
    have hi := ih (k + 1) (by omega)
    refine sI_bLe 18 (k : Int) (fun hh => by omega) (fun _ => ⟨sL_10, nm_r hx (sL_bLe ((A / 10 ^ (k + 1) : Nat) : Int) 0 (fun z => nm_r (sI_add k 1) ?_) (fun z => ?_))⟩)
    · have z0 : A / 10 ^ (k + 1) = 0 := by omega
      have z1 : A < 10 ^ (k + 1) := (Nat.div_eq_zero_iff_lt (tn_ _)).1 z0
      have z2 := hL4 (k + 1) (by omega) z1
      rw [if_neg (by omega)] at hi
      have e : (if k + 1 ≤ L then k + 1 else L) = L := by
        by_cases c : k + 1 ≤ L
        · rw [if_pos c]; omega
        · rw [if_neg c]
      rw [e]
      exact hi
    · have z0 : 1 ≤ A / 10 ^ (k + 1) := by omega
      have z1 : 10 ^ (k + 1) ≤ A := by
        have := (Nat.le_div_iff_mul_le (tn_ _)).1 z0
        omega
      have z2 : k + 1 < L := by
        have : 10 ^ (k + 1) < 10 ^ L := by omega
        exact dd_rv this
      rw [if_pos (by omega)] at hi
      rw [if_pos (by omega)]
      exact nm_r (sI_add (k + 1 : Nat) 1) (nm_r (sI_add k 1) hi)
theorem yk_dig {post : Int32 → Prop} {pr mo fl lo ne mr : Int32} {co ex di : Nat → Int32} {z : Int64} (v : Int) (P : Nat) (hz : z = sL_ v) (hv : v.natAbs < 10 ^ 18) (hP : 1 ≤ P ∧ P ≤ 18)
    (h : ∀ r : Int32, (r ≤ sI_ (P : Int) ↔ v.natAbs < 10 ^ P) → post r) :
    wpY_digitsOf post (pr, mo, fl, lo, ne, mr, co, ex, di) z := by
  subst hz
  obtain ⟨L, h1, h2, h3, h4⟩ := yk_ex v.natAbs 17 hv
  have hp : post (sI_ (L : Int)) := h _ (by
    rw [sI_leI (by omega) (by omega)]
    constructor
    · intro q
      have := dd_le (a := L) (b := P) (by omega)
      omega
    · intro q
      have := h4 P hP.1 q
      omega)
  have k := yk_dig1 post pr mo fl lo ne mr co ex di v.natAbs L hv h1 (by omega) h3 h4 hp 18 0 rfl
  rw [Nat.pow_zero, Nat.div_one, if_pos (by omega)] at k
  refine sL_bLe 0 v (fun q => ?_) (fun q => nm_r (sL_neg v) ?_)
  · rw [show ((v.natAbs : Nat) : Int) = v from by omega] at k
    exact ⟨_, k⟩
  · rw [show ((v.natAbs : Nat) : Int) = -v from by omega] at k
    exact ⟨_, k⟩
def cl_ (e : Int) : Int := if e < -20 then -20 else if 20 < e then 20 else e
def sg_ (neg : Bool) (c : Nat) : Int := if neg then -(c : Int) else (c : Int)
/-- what a finished call answers, and the flags and registers that it leaves -/
def rs_ (neg : Bool) (c : Nat) (e : Int) (f fl : Int32) (co ex : Nat → Int32) (d : Nat) : Int32 × Int32 × (Nat → Int32) × (Nat → Int32) :=
  if c ≠ 0 ∧ (e < -20 ∨ 20 < e) then (8, fl ||| 8, co, ex) else (f, fl ||| f, upd co d (sI_ (sg_ neg c)), upd ex d (sI_ (cl_ e)))
def KY_ (post : Int32 → SY → Prop) (pr mo : Int32) (t : Int32 × Int32 × (Nat → Int32) × (Nat → Int32)) : Prop :=
  ∀ (lo ne mr : Int32) (di : Nat → Int32), post t.1 (pr, mo, t.2.1, lo, ne, mr, t.2.2.1, t.2.2.2, di)
theorem yk_keep {post : Int32 → SY → Prop} {pr mo fl lo mr : Int32} {co ex di : Nat → Int32} (neg : Bool) (d c : Nat) (e : Int) {f : Int32} (hd : d < 6) (hc : c < 10 ^ 9) (he : -1000 ≤ e ∧ e ≤ 1000)
    (h : KY_ post pr mo (rs_ neg c e f fl co ex d)) :
    wpY_keep post (pr, mo, fl, lo, bI_ neg, mr, co, ex, di) (sI_ (d : Int)) (sL_ (c : Int)) (sI_ e) f := by
  have kin : ∀ x : Int32, x = sI_ (cl_ e) → ¬ (c ≠ 0 ∧ (e < -20 ∨ 20 < e)) → wY_keep_78 post f x (sI_ (d : Int)) pr mo fl lo (bI_ neg) mr (upd co d (sI_ (sg_ neg c))) ex di := by
    intro x hx hn
    unfold rs_ at h
    rw [if_neg hn] at h
    refine ⟨sI_in hd (by omega), nm_e (nm_e ?_)⟩
    rw [sI_cl (by omega), hx]
    exact h _ _ _ _
  have k45 : ∀ z : Int, z = sg_ neg c → ¬ (c ≠ 0 ∧ (e < -20 ∨ 20 < e)) → wY_keep_45 post (sI_ (d : Int)) (sI_ e) f (sL_ z) (sI_ (d : Int)) pr mo fl lo (bI_ neg) mr co ex di := by
    intro z hz hn
    refine ⟨sI_in hd (by omega), nm_e ?_⟩
    rw [sI_cl (by omega), sL_i, hz]
    refine sI_bLe (-20) e (fun h1 => sI_bLe e 20 (fun h2 => kin _ ?_ hn) (fun h2 => kin _ ?_ hn)) (fun h1 => kin _ ?_ hn)
    · unfold cl_; rw [if_neg (by omega), if_neg (by omega)]
    · unfold cl_; rw [if_neg (by omega), if_pos (by omega)]; rfl
    · unfold cl_; rw [if_pos (by omega)]; rfl
  have k27 : ¬ (c ≠ 0 ∧ (e < -20 ∨ 20 < e)) → wY_keep_27 post (sI_ (d : Int)) (sL_ (c : Int)) (sI_ e) f pr mo fl lo (bI_ neg) mr co ex di := by
    intro hn
    refine bI_br neg (fun b => k45 _ ?_ hn) (fun b => ?_)
    · rw [b]; rfl
    · rw [sL_neg]
      refine k45 _ ?_ hn
      rw [b]; rfl
  have k20 : (c ≠ 0 ∧ (e < -20 ∨ 20 < e)) → wY_keep_20 post pr mo fl lo (bI_ neg) mr co ex di := by
    intro hn
    unfold rs_ at h
    rw [if_pos hn] at h
    exact nm_e (h _ _ _ _)
  refine sL_bEq (c : Int) 0 (fun z => k27 (by omega)) (fun z => sI_bLt e (-20) (fun z2 => k20 (by omega)) (fun z2 => sI_bLe e 20 (fun z3 => k27 (by omega)) (fun z3 => k20 (by omega))))
end
section
/-- Y: finish -/
def rq_ (mode : Nat) (neg : Bool) (m k : Nat) (more : Bool) : Nat := if ru_ mode neg (m / 10 ^ k) (m % 10 ^ k) (10 ^ k) more = true then m / 10 ^ k + 1 else m / 10 ^ k
def rc_ (P r : Nat) : Nat := if 10 ^ P ≤ r then r / 10 else r
def re_ (P r : Nat) : Int := if 10 ^ P ≤ r then 1 else 0
def fin_ (P mode : Nat) (neg : Bool) (M : Nat) (low : Int) (more : Bool) (w : Int) (c : Nat) (e : Int) (f : Int32) : Prop :=
  (M = 0 ∧ c = 0 ∧ e = w ∧ f = 0) ∨
  (∃ t b : Nat, 10 ^ t ≤ M ∧ M < 10 ^ (t + 1) ∧ M % 10 ^ b = 0 ∧ M % 10 ^ (b + 1) ≠ 0 ∧ b ≤ t ∧ more = false ∧ t + 1 ≤ b + P ∧
    e = (if w < low + t + 1 - P then low + t + 1 - P else if low + b < w then low + b else w) ∧
    c = M / 10 ^ b * 10 ^ (low + b - e).toNat ∧ f = (if w < e then 2 else 0)) ∨
  (∃ t : Nat, 10 ^ t ≤ M ∧ M < 10 ^ (t + 1) ∧ P ≤ t ∧ (more = true ∨ M % 10 ^ (t + 1 - P) ≠ 0) ∧
    c = rc_ P (rq_ mode neg M (t + 1 - P) more) ∧ e = low + (t + 1 - P : Nat) + re_ P (rq_ mode neg M (t + 1 - P) more) ∧ f = 3)
theorem yf_p {P : Nat} (h : 3 ≤ P ∧ P ≤ 7) : 1000 ≤ 10 ^ P ∧ 10 ^ P ≤ 10000000 := by
  have cs : P = 3 ∨ P = 4 ∨ P = 5 ∨ P = 6 ∨ P = 7 := by omega
  rcases cs with e | e | e | e | e <;> subst e <;> decide
theorem yf_203 {post : Int32 → SY → Prop} {mo fl mr : Int32} {co ex di : Nat → Int32} (P : Nat) (neg : Bool) (lo : Int) (d k r : Nat)
    (hP : 3 ≤ P ∧ P ≤ 7) (hd : d < 6) (hlo : -200 ≤ lo ∧ lo ≤ 200) (hk : k < 200) (hr : r ≤ 10 ^ P)
    (h : KY_ post (sI_ (P : Int)) mo (rs_ neg (rc_ P r) (lo + k + re_ P r) 3 fl co ex d)) :
    wY_finish_203 post (sI_ (d : Int)) (sI_ (k : Int)) (sL_ (r : Int)) (sI_ (P : Int)) mo fl (sI_ lo) (bI_ neg) mr co ex di := by
  have hp := yf_p hP
  unfold rc_ re_ at h
  refine nm_r (sI_add lo k) (yk_dig (r : Int) P rfl (by omega) (by omega) (fun x hx => yk_if hx (fun q => ?_) (fun q => ⟨sL_10, ?_⟩)))
  · rw [if_neg (by omega), if_neg (by omega), Int.add_zero] at h
    exact yk_keep neg d r (lo + k) hd (by omega) (by omega) (fun a b c e => h a b c e)
  · rw [if_pos (by omega), if_pos (by omega)] at h
    refine nm_r (sL_div10 (a := (r : Int)) (by omega)) (nm_r (sI_add _ 1) ?_)
    rw [Int.natCast_tdiv_eq_ediv]
    exact yk_keep neg d (r / 10) (lo + k + 1) hd (by omega) (by omega) (fun a b c e => h a b c e)
theorem yf_153 {post : Int32 → SY → Prop} {fl : Int32} {co ex di : Nat → Int32} (P mode : Nat) (neg more : Bool) (lo : Int) (d t : Nat) {M : Nat} (D : dg_ di M)
    (hP : 3 ≤ P ∧ P ≤ 7) (hm : mode ≤ 6) (hd : d < 6) (hlo : -200 ≤ lo ∧ lo ≤ 200) (ht : t < 128) (hPt : P ≤ t) (hM : M < 10 ^ (t + 1))
    (h : KY_ post (sI_ (P : Int)) (sI_ (mode : Int)) (rs_ neg (rc_ P (rq_ mode neg M (t + 1 - P) more)) (lo + (t + 1 - P : Nat) + re_ P (rq_ mode neg M (t + 1 - P) more)) 3 fl co ex d)) :
    wY_finish_153 post (sI_ (d : Int)) (sI_ (t : Int)) (sI_ (P : Int)) (sI_ (mode : Int)) fl (sI_ lo) (bI_ neg) (bI_ more) co ex di := by
  have hp := yf_p hP
  have e6 : sI_ (t : Int) - sI_ (P : Int) + 1 = sI_ ((t + 1 - P : Nat) : Int) := by
    rw [sI_sub, sI_p1, show (t : Int) - P + 1 = ((t + 1 - P : Nat) : Int) from by omega]
  have hq : M / 10 ^ (t + 1 - P) < 10 ^ P := by
    refine Nat.div_lt_of_lt_mul ?_
    rw [← Nat.pow_add, show t + 1 - P + P = t + 1 from by omega]
    exact hM
  generalize hk : t + 1 - P = k at *
  unfold rq_ at h
  generalize hQ : M / 10 ^ k = q at *
  have key : wY_finish_191 post (sI_ (d : Int)) (sI_ (k : Int)) (sL_ (q : Int)) (bI_ (decide (q % 2 = 1))) (sI_ (k : Int)) (sI_ (P : Int)) (sI_ (mode : Int)) fl (sI_ lo) (bI_ neg) (bI_ more) co ex di := by
    refine yv_up mode hm neg more D q k (by omega) (fun z => by omega) (bI_br _ (fun z => ?_) (fun z => nm_r (sL_add (q : Int) 1) ?_))
    · rw [z, if_neg (by decide)] at h
      exact yf_203 P neg lo d k q hP hd hlo (by omega) (by omega) h
    · rw [z, if_pos rfl] at h
      exact yf_203 P neg lo d k (q + 1) hP hd hlo (by omega) (by omega) h
  refine nm_r e6 (ys_part D k t (by omega) ht hM (by rw [hQ]; omega) ⟨sL_2, ?_⟩)
  rw [hQ, sL_rem2 (by omega), Int.tmod_eq_emod_of_nonneg (by omega)]
  refine sL_bEq ((q : Int) % 2) 1 (fun z => ?_) (fun z => ?_)
  · rw [show decide (q % 2 = 1) = true from decide_eq_true (by omega)] at key
    exact key
  · rw [show decide (q % 2 = 1) = false from decide_eq_false (by omega)] at key
    exact key
theorem yf_111 {post : Int32 → SY → Prop} {pr mo fl mr : Int32} {co ex di : Nat → Int32} (neg : Bool) (lo w e most : Int) (d : Nat)
    (hd : d < 6) (hw : -1000 ≤ w ∧ w ≤ 1000) (he : -1000 ≤ e ∧ e ≤ 1000) (hmost : -1000 ≤ most ∧ most ≤ 1000) : ∀ (n c : Nat) (a : Int), -1000 ≤ a → a + n = most → c * 10 ^ n < 10 ^ 9 →
    KY_ post pr mo (rs_ neg (c * 10 ^ n) e (if w < e then 2 else 0) fl co ex d) →
    wY_finish_111 post (sI_ (d : Int)) (sI_ w) (sI_ most) (sI_ e) pr mo fl (sI_ lo) (bI_ neg) mr co ex di (n + 1) (sL_ (c : Int)) (sI_ a) := by
  intro n
  induction n with
  | zero =>
    intro c a ha0 ha hc h
    rw [Nat.pow_zero, Nat.mul_one] at h hc
    refine sI_bLe most a (fun _ => sI_bLe e w (fun z => ?_) (fun z => ?_)) (fun hh => by omega)
    · rw [if_neg (by omega)] at h
      exact yk_keep neg d c e hd hc he (fun x y z t => h x y z t)
    · rw [if_pos (by omega)] at h
      exact yk_keep neg d c e hd hc he (fun x y z t => h x y z t)
  | succ n ih =>
    intro c a ha0 ha hc h
    refine sI_bLe most a (fun hh => by omega) (fun _ => nm_r (sL_mul (c : Int) 10) (nm_r (sI_p1 a) ?_))
    rw [show c * 10 ^ (n + 1) = (c * 10) * 10 ^ n from by rw [Nat.pow_succ]; grind] at h hc
    exact ih (c * 10) (a + 1) (by omega) (by omega) hc h
theorem yf_96 {post : Int32 → SY → Prop} {pr mo fl mr : Int32} {co ex di : Nat → Int32} (neg : Bool) (lo w e most : Int) (d t b : Nat) {M : Nat} (D : dg_ di M)
    (hd : d < 6) (hw : -1000 ≤ w ∧ w ≤ 1000) (he : -1000 ≤ e ∧ e ≤ most) (hmost : -1000 ≤ most ∧ most ≤ 1000) (ht : t < 128) (hb : b ≤ t) (hM : M < 10 ^ (t + 1))
    (hc : M / 10 ^ b * 10 ^ (most - e).toNat < 10 ^ 9)
    (h : KY_ post pr mo (rs_ neg (M / 10 ^ b * 10 ^ (most - e).toNat) e (if w < e then 2 else 0) fl co ex d)) :
    wY_finish_96 post (sI_ (d : Int)) (sI_ w) (sI_ (t : Int)) (sI_ (b : Int)) (sI_ most) (sI_ e) pr mo fl (sI_ lo) (bI_ neg) mr co ex di := by
  have hq : M / 10 ^ b < 10 ^ 18 := by
    have := Nat.le_mul_of_pos_right (M / 10 ^ b) (tn_ (most - e).toNat)
    omega
  refine ys_part D b t hb ht hM hq ⟨(most - e).toNat + 1, yf_111 neg lo w e most d hd hw (by omega) hmost _ _ _ he.1 (by omega) hc h⟩
theorem yf_finish {post : Int32 → SY → Prop} {fl : Int32} {co ex di : Nat → Int32} (P mode : Nat) (neg more : Bool) (lo w : Int) (d : Nat) (V : Int)
    (hP : 3 ≤ P ∧ P ≤ 7) (hm : mode ≤ 6) (hd : d < 6) (hlo : -200 ≤ lo ∧ lo ≤ 200) (hw : -200 ≤ w ∧ w ≤ 200)
    (hV : dv_ di 128 = V) (hb : V.natAbs < 10 ^ 128) (hdi : ∀ i, i < 128 → -50 ≤ (di i).toInt ∧ (di i).toInt ≤ 50) (hmore : more = true → 10 ^ P ≤ V.natAbs)
    (h : ∀ (c : Nat) (e : Int) (f : Int32), fin_ P mode (neg || decide (V < 0)) V.natAbs lo more w c e f → KY_ post (sI_ (P : Int)) (sI_ (mode : Int)) (rs_ (neg || decide (V < 0)) c e f fl co ex d)) :
    wpY_finish post (sI_ (P : Int), sI_ (mode : Int), fl, sI_ lo, bI_ neg, bI_ more, co, ex, di) (sI_ (d : Int)) (sI_ w) := by
  have hp := yf_p hP
  unfold wpY_finish
  refine yt_tidy neg V hV hb hdi (fun di' D => ?_)
  generalize hng : (neg || decide (V < 0)) = ng at *
  generalize V.natAbs = M at *
  refine ys_top D hb (fun z => ?_) (fun t ht h1 h2 => ?_)
  · exact br_f (by decide) (yk_keep ng d 0 w hd (by omega) (by omega) (fun x y z1 t => h 0 w 0 (Or.inl ⟨z, rfl, rfl, rfl⟩) x y z1 t))
  · have hM0 : M ≠ 0 := by have := tn_ t; omega
    refine sI_bLe 0 (t : Int) (fun _ => ys_bot D hb hM0 (fun b hb1 h3 h4 => ?_)) (fun hh => by omega)
    have hbt : b ≤ t := by
      by_cases c : b ≤ t
      · exact c
      · have q1 := dd_le (a := t + 1) (b := b) (by omega)
        rw [Nat.mod_eq_of_lt (by omega)] at h3
        exact absurd h3 hM0
    have e5 : sI_ (t : Int) - sI_ (b : Int) + 1 = sI_ ((t : Int) - b + 1) := by rw [sI_sub, sI_p1]
    have hB : P ≤ t → (more = true ∨ M % 10 ^ (t + 1 - P) ≠ 0) → wY_finish_153 (fun r u => post r u) (sI_ (d : Int)) (sI_ (t : Int)) (sI_ (P : Int)) (sI_ (mode : Int)) fl (sI_ lo) (bI_ ng) (bI_ more) co ex di' := by
      intro g1 g2
      exact yf_153 P mode ng more lo d t D hP hm hd hlo ht g1 h2 (h _ _ _ (Or.inr (Or.inr ⟨t, h1, h2, g1, g2, rfl, rfl, rfl⟩)))
    refine nm_r e5 (bI_br more (fun em => sI_bLt (P : Int) ((t : Int) - b + 1) (fun g => ?_) (fun g => ?_)) (fun em => ?_))
    · refine hB (by omega) (Or.inr ?_)
      intro z
      have : M % 10 ^ (b + 1) = 0 := by
        obtain ⟨x, hx⟩ := Nat.dvd_of_mod_eq_zero z
        rw [hx, show t + 1 - P = (b + 1) + (t - P - b) from by omega, Nat.pow_add, Nat.mul_assoc]
        exact Nat.mul_mod_right _ _
      exact h4 this
    · have hA : ∀ e : Int, e = (if w < lo + t + 1 - P then lo + t + 1 - P else if lo + b < w then lo + b else w) → wY_finish_96 post (sI_ (d : Int)) (sI_ w) (sI_ (t : Int)) (sI_ (b : Int)) (sI_ (lo + b)) (sI_ e) (sI_ (P : Int)) (sI_ (mode : Int)) fl (sI_ lo) (bI_ ng) (bI_ more) co ex di' := by
        intro e he
        have he2 : lo + t + 1 - P ≤ e ∧ e ≤ lo + b := by
          rw [he]
          by_cases z : w < lo + t + 1 - P
          · rw [if_pos z]; omega
          · rw [if_neg z]
            by_cases z2 : lo + b < w
            · rw [if_pos z2]; omega
            · rw [if_neg z2]; omega
        have hc : M / 10 ^ b * 10 ^ (lo + b - e).toNat < 10 ^ 9 := by
          have q1 : M / 10 ^ b < 10 ^ (t + 1 - b) := by
            refine Nat.div_lt_of_lt_mul ?_
            rw [← Nat.pow_add, show b + (t + 1 - b) = t + 1 from by omega]
            exact h2
          have q2 := Nat.mul_lt_mul_of_pos_right q1 (tn_ (lo + b - e).toNat)
          rw [← Nat.pow_add] at q2
          have q3 := dd_le (a := t + 1 - b + (lo + b - e).toNat) (b := P) (by omega)
          omega
        exact yf_96 ng lo w e (lo + b) d t b D hd (by omega) (by omega) (by omega) ht hbt h2 hc (h _ _ _ (Or.inr (Or.inl ⟨t, b, h1, h2, h3, h4, hbt, em, by omega, he, rfl, rfl⟩)))
      refine nm_r (sI_add lo b) (nm_r (e' := sI_ (lo + t + 1 - P)) ?_ (sI_bLe (lo + t + 1 - P) w (fun z => sI_bLe w (lo + b) (fun z2 => hA w ?_) (fun z2 => hA (lo + b) ?_)) (fun z => hA (lo + t + 1 - P) ?_)))
      · rw [sI_sub, sI_sub]; congr 1; omega
      · rw [if_neg (by omega), if_neg (by omega)]
      · rw [if_neg (by omega), if_pos (by omega)]
      · rw [if_pos (by omega)]
    · have := hmore em
      refine hB ?_ (Or.inl em)
      have : 10 ^ P < 10 ^ (t + 1) := by omega
      have := dd_rv this
      omega
end
section
/-- X: powerOfTen, hold, dropDigits -/
theorem xa_pow1 (post : Int64 → Prop) (n N : Nat) (hn : n < 1000000) (hN : (N = n ∧ n ≤ 18) ∨ (N = 18 ∧ 18 ≤ n)) (h : post (sL_ ((10 ^ N : Nat) : Int))) :
    ∀ d i : Nat, i + d = N → wX_powerOfTen_4 post (sI_ (n : Int)) (d + 1) (sL_ ((10 ^ i : Nat) : Int)) (sI_ (i : Int)) := by
  intro d
  induction d with
  | zero =>
    intro i hi
    have : i = N := by omega
    subst this
    exact sI_bLe (n : Int) (i : Int) (fun _ => h) (fun _ => sI_bLe 18 (i : Int) (fun _ => h) (fun hh => by omega))
  | succ d ih =>
    intro i hi
    refine sI_bLe (n : Int) (i : Int) (fun hh => by omega) (fun _ => sI_bLe 18 (i : Int) (fun hh => by omega) (fun _ => nm_r (e' := sL_ ((10 ^ (i + 1) : Nat) : Int)) ?_ (nm_r (sI_add i 1) (ih (i + 1) (by omega)))))
    rw [show (10 : Int64) = sL_ 10 from rfl, sL_mul, Nat.pow_succ]
    rfl
theorem xa_pow {post : Int64 → Prop} (n N : Nat) (hn : n < 1000000) (hN : (N = n ∧ n ≤ 18) ∨ (N = 18 ∧ 18 ≤ n)) (h : post (sL_ ((10 ^ N : Nat) : Int))) :
    wpX_powerOfTen post (sI_ (n : Int)) :=
  ⟨N + 1, xa_pow1 post n N hn hN h N 0 (by omega)⟩
theorem xa_hold {post : SX → Prop} {li ma : Int64} {ro ra ne sc ta e : Int32} {co ex : Nat → Int32} (z : Int) (hz : -9223372036854775808 < z ∧ z < 9223372036854775808)
    (h : post (li, ro, ra, bI_ (decide (z < 0)), sL_ (z.natAbs : Int), e, bI_ false, co, ex)) :
    wpX_hold post (li, ro, ra, ne, ma, sc, ta, co, ex) (sL_ z) e := by
  refine sL_bLe 0 z (fun q => ?_) (fun q => ?_)
  · rw [decide_eq_false (by omega), show (z.natAbs : Int) = z from by omega] at h
    exact ⟨rfl, rfl, br_t rfl h⟩
  · rw [decide_eq_true (by omega), show (z.natAbs : Int) = -z from by omega] at h
    refine ⟨rfl, rfl, br_f (by decide) ?_⟩
    rw [sL_neg]
    exact h
theorem xa_away {post : Int32 → Prop} {li : Int64} {ra sc ta : Int32} {co ex : Nat → Int32} (mode : Nat) (hm : mode ≤ 6) (neg : Bool) (q : Nat) (hq : q < 9 * 10 ^ 18) (hh : Int) (h3 : -1 ≤ hh ∧ hh ≤ 1)
    (h : post (bI_ (if mode = 0 then decide (0 < hh ∨ (hh = 0 ∧ q % 2 = 1)) else if mode = 1 then decide (0 ≤ hh) else if mode = 2 then false else if mode = 3 then true else if mode = 4 then neg else if mode = 5 then !neg else decide (0 < hh)))) :
    wpX_goesAway post (li, sI_ (mode : Int), ra, bI_ neg, sL_ (q : Int), sc, ta, co, ex) (sI_ hh) := by
  have cs : mode = 0 ∨ mode = 1 ∨ mode = 2 ∨ mode = 3 ∨ mode = 4 ∨ mode = 5 ∨ mode = 6 := by omega
  unfold wpX_goesAway
  rcases cs with e | e | e | e | e | e | e <;> subst e
  · refine br_f (by decide) (br_f (by decide) (br_t (by decide) (sI_bLt 0 hh (fun z => ?_) (fun z => sI_bEq hh 0 (fun z2 => ⟨sL_2, ?_⟩) (fun z2 => ?_)))))
    · rw [if_pos rfl, decide_eq_true (Or.inl z)] at h
      exact h
    · rw [sL_rem2 (by omega), Int.tmod_eq_emod_of_nonneg (by omega)]
      rw [if_pos rfl] at h
      refine sL_bEq ((q : Int) % 2) 0 (fun z3 => ?_) (fun z3 => ?_)
      · rw [decide_eq_false (by omega)] at h
        exact h
      · rw [decide_eq_true (by omega)] at h
        exact h
    · rw [if_pos rfl, decide_eq_false (by omega)] at h
      exact h
  · refine br_f (by decide) (br_f (by decide) (br_f (by decide) (br_t (by decide) (sI_bLt hh 0 (fun z => ?_) (fun z => ?_)))))
    · rw [if_neg (by decide), if_pos rfl, decide_eq_false (by omega)] at h
      exact h
    · rw [if_neg (by decide), if_pos rfl, decide_eq_true (by omega)] at h
      exact h
  · exact br_f (by decide) (br_f (by decide) (br_f (by decide) (br_f (by decide) (br_t (by decide) h))))
  · exact br_f (by decide) (br_f (by decide) (br_f (by decide) (br_f (by decide) (br_f (by decide) (br_t (by decide) h)))))
  · exact br_f (by decide) (br_f (by decide) (br_f (by decide) (br_f (by decide) (br_f (by decide) (br_f (by decide) (br_t (by decide) ⟨bI_n neg, h⟩))))))
  · refine br_f (by decide) (br_f (by decide) (br_f (by decide) (br_f (by decide) (br_f (by decide) (br_f (by decide) (br_f (by decide) (br_t (by decide) (bI_br neg (fun e1 => ?_) (fun e1 => ?_)))))))))
    · subst e1; exact h
    · subst e1; exact h
  · refine br_f (by decide) (br_t (by decide) (sI_bLe hh 0 (fun z => ?_) (fun z => ?_)))
    · rw [if_neg (by decide), if_neg (by decide), if_neg (by decide), if_neg (by decide), if_neg (by decide), if_neg (by decide), decide_eq_false (by omega)] at h
      exact h
    · rw [if_neg (by decide), if_neg (by decide), if_neg (by decide), if_neg (by decide), if_neg (by decide), if_neg (by decide), decide_eq_true (by omega)] at h
      exact h
theorem xa_hh {R U q : Nat} (mode : Nat) (neg tail : Bool) (hh : Int) (h0 : ¬ (R = 0 ∧ tail = false)) (h1 : 0 < hh ↔ (U < 2 * R ∨ (2 * R = U ∧ tail = true))) (h2 : hh = 0 ↔ (2 * R = U ∧ tail = false)) :
    (if mode = 0 then decide (0 < hh ∨ (hh = 0 ∧ q % 2 = 1)) else if mode = 1 then decide (0 ≤ hh) else if mode = 2 then false else if mode = 3 then true else if mode = 4 then neg else if mode = 5 then !neg else decide (0 < hh)) = ru_ mode neg q R U tail := by
  unfold ru_
  rw [if_neg h0]
  by_cases m0 : mode = 0
  · rw [if_pos m0, if_pos m0, decide_eq_decide, h1, h2]
    cases tail <;> simp <;> omega
  · rw [if_neg m0, if_neg m0]
    by_cases m1 : mode = 1
    · rw [if_pos m1, if_pos m1, decide_eq_decide, show (0 ≤ hh) ↔ (0 < hh ∨ hh = 0) from by omega, h1, h2]
      cases tail <;> simp <;> omega
    · rw [if_neg m1, if_neg m1]
      by_cases m2 : mode = 2
      · rw [if_pos m2, if_pos m2]
      · rw [if_neg m2, if_neg m2]
        by_cases m3 : mode = 3
        · rw [if_pos m3, if_pos m3]
        · rw [if_neg m3, if_neg m3]
          by_cases m4 : mode = 4
          · rw [if_pos m4, if_pos m4]
          · rw [if_neg m4, if_neg m4]
            by_cases m5 : mode = 5
            · rw [if_pos m5, if_pos m5]
            · rw [if_neg m5, if_neg m5, decide_eq_decide, h1]
theorem xa_49 {post : Int32 → SX → Prop} {li : Int64} {ra sc : Int32} {co ex : Nat → Int32} (mode : Nat) (hm : mode ≤ 6) (neg tail : Bool) (q R U : Nat) (hq : q < 9 * 10 ^ 18) (hR : R < U) (hU : U ≤ 10 ^ 18) (h0 : ¬ (R = 0 ∧ tail = false))
    (h : post 1 (li, sI_ (mode : Int), ra, bI_ neg, sL_ ((if ru_ mode neg q R U tail = true then q + 1 else q : Nat) : Int), sc, bI_ tail, co, ex)) :
    wX_dropDigits_49 post (sL_ (U : Int)) (sL_ (R : Int)) li (sI_ (mode : Int)) ra (bI_ neg) (sL_ (q : Int)) sc (bI_ tail) co ex := by
  have key : ∀ (x : Int32) (hh : Int), x = sI_ hh → -1 ≤ hh ∧ hh ≤ 1 → (0 < hh ↔ (U < 2 * R ∨ (2 * R = U ∧ tail = true))) → (hh = 0 ↔ (2 * R = U ∧ tail = false)) →
      wpX_goesAway (fun r_18 => (((r_18 = 0 → (post 1 (li, sI_ (mode : Int), ra, bI_ neg, sL_ (q : Int), sc, bI_ tail, co, ex))) ∧ (¬ r_18 = 0 → (∀ f_magnitude_29 : Int64, f_magnitude_29 = sL_ (q : Int) + 1 → (post 1 (li, sI_ (mode : Int), ra, bI_ neg, f_magnitude_29, sc, bI_ tail, co, ex))))))) (li, sI_ (mode : Int), ra, bI_ neg, sL_ (q : Int), sc, bI_ tail, co, ex) x := by
    intro x hh hx g1 g2 g3
    subst hx
    refine xa_away mode hm neg q hq hh g1 ?_
    rw [xa_hh (q := q) mode neg tail hh h0 g2 g3]
    refine bI_br _ (fun z => ?_) (fun z => nm_r (sL_add (q : Int) 1) ?_)
    · rw [z, if_neg (by decide)] at h
      exact h
    · rw [z, if_pos rfl] at h
      exact h
  unfold wX_dropDigits_49 wpX_againstHalf
  refine nm_r (sL_mul (R : Int) 2) (sL_bLe (U : Int) ((R : Int) * 2) (fun z => sL_bLt (U : Int) ((R : Int) * 2) (fun z2 => key 1 1 rfl (by omega) ?_ ?_) (fun z2 => bI_br tail (fun e => key 0 0 rfl (by omega) ?_ ?_) (fun e => key 1 1 rfl (by omega) ?_ ?_))) (fun z => key (-1) (-1) rfl (by omega) ?_ ?_))
  · constructor <;> intro g <;> first | omega | exact Or.inl (by omega)
  · constructor <;> intro g <;> omega
  · subst e; constructor <;> intro g
    · omega
    · rcases g with g | g
      · omega
      · exact absurd g.2 (by decide)
  · subst e; constructor <;> intro g
    · exact ⟨by omega, rfl⟩
    · rfl
  · subst e; constructor <;> intro g
    · exact Or.inr ⟨by omega, rfl⟩
    · omega
  · subst e; constructor <;> intro g
    · omega
    · exact absurd g.2 (by decide)
  · constructor <;> intro g
    · omega
    · omega
  · constructor <;> intro g
    · omega
    · omega
theorem xa_drop {post : Int32 → SX → Prop} {li : Int64} {ra : Int32} {co ex : Nat → Int32} (mode : Nat) (hm : mode ≤ 6) (neg tail : Bool) (m : Nat) (s : Int) (n N : Nat) (hn : n < 1000000) (hN : (N = n ∧ n ≤ 18) ∨ (N = 18 ∧ 18 ≤ n)) (hmm : m < 9 * 10 ^ 18)
    (h : post (bI_ (decide (m % 10 ^ N ≠ 0) || tail)) (li, sI_ (mode : Int), ra, bI_ neg, sL_ (rq_ mode neg m N tail : Int), sI_ (s + n), bI_ tail, co, ex)) :
    wpX_dropDigits post (li, sI_ (mode : Int), ra, bI_ neg, sL_ (m : Int), sI_ s, bI_ tail, co, ex) (sI_ (n : Int)) := by
  have hp : 10 ^ N ≤ 10 ^ 18 := dd_le (by omega)
  have ht := tn_ N
  unfold rq_ at h
  unfold wpX_dropDigits
  refine xa_pow n N hn hN ?_
  generalize 10 ^ N = U at *
  have hd : sL_ (m : Int) / sL_ (U : Int) = sL_ ((m / U : Nat) : Int) := by
    rw [sL_div (by omega) (by omega), Int.natCast_tdiv_eq_ediv]
    congr 1
  have hr : sL_ (m : Int) - sL_ (m : Int) / sL_ (U : Int) * sL_ (U : Int) = sL_ ((m % U : Nat) : Int) := by
    rw [sL_rem (by omega) (by omega), Int.tmod_eq_emod_of_nonneg (by omega)]
    congr 1
  have hq : m / U ≤ m := Nat.div_le_self _ _
  have hR : m % U < U := Nat.mod_lt _ ht
  have hu : ¬ sL_ (U : Int) = 0 := sL_n0 (by omega) (by omega)
  have hn1 := Int.natCast_nonneg (m % U)
  refine ⟨hu, nm_r hr ⟨hu, nm_r hd (nm_r (sI_add s n) (sL_bEq ((m % U : Nat) : Int) 0 (fun z => bI_br tail (fun e => ?_) (fun e => ?_)) (fun z => ?_)))⟩⟩
  · have z0 : m % U = 0 := by omega
    subst e
    rw [z0] at h
    have e2 : ru_ mode neg (m / U) 0 U false = false := by
      unfold ru_; rw [if_pos ⟨rfl, rfl⟩]
    rw [e2, if_neg (by decide)] at h
    exact h
  · refine xa_49 mode hm neg tail (m / U) (m % U) U (by omega) hR hp (fun c => by rw [e] at c; exact absurd c.2 (by decide)) ?_
    rw [e, Bool.or_true] at h
    rw [e]
    exact h
  · have z0 : m % U ≠ 0 := by omega
    refine xa_49 mode hm neg tail (m / U) (m % U) U (by omega) hR hp (fun c => z0 c.1) ?_
    rw [decide_eq_true z0, Bool.true_or] at h
    exact h
end
section
/-- X: shorten, store, finish -/
theorem xf_dle (m : Nat) {i j : Nat} (h : i ≤ j) : m / 10 ^ j ≤ m / 10 ^ i := Nat.div_le_div_left (dd_le h) (tn_ i)
theorem xf_rq (mode : Nat) (neg : Bool) (m k : Nat) (more : Bool) : m / 10 ^ k ≤ rq_ mode neg m k more ∧ rq_ mode neg m k more ≤ m / 10 ^ k + 1 := by
  unfold rq_
  by_cases c : ru_ mode neg (m / 10 ^ k) (m % 10 ^ k) (10 ^ k) more = true
  · rw [if_pos c]; omega
  · rw [if_neg c]; omega
theorem xf_34 {post : Int32 → SX → Prop} {ra : Int32} {co ex : Nat → Int32} (P mode : Nat) (neg tail : Bool) (m : Nat) (s : Int) (K : Nat)
    (hP : 3 ≤ P ∧ P ≤ 7) (hm : mode ≤ 6) (hK : K ≤ 18) (hmm : m < 9 * 10 ^ 18) (h1 : m / 10 ^ K < 10 ^ P)
    (h : post (bI_ (decide (m % 10 ^ K ≠ 0) || tail)) (sL_ ((10 ^ P : Nat) : Int), sI_ (mode : Int), ra, bI_ neg, sL_ (rc_ P (rq_ mode neg m K tail) : Int), sI_ (s + K + re_ P (rq_ mode neg m K tail)), bI_ tail, co, ex)) :
    wX_shorten_34 post (sI_ (K : Int)) (sL_ ((10 ^ P : Nat) : Int)) (sI_ (mode : Int)) ra (bI_ neg) (sL_ (m : Int)) (sI_ s) (bI_ tail) co ex := by
  have hp := yf_p hP
  have hr := xf_rq mode neg m K tail
  unfold wX_shorten_34
  refine xa_drop mode hm neg tail m s K K (by omega) (Or.inl ⟨rfl, hK⟩) hmm ?_
  unfold rc_ re_ at h
  generalize 10 ^ P = T at *
  generalize rq_ mode neg m K tail = r at *
  refine sL_bLt (r : Int) (T : Int) (fun z => ⟨bI_n _, ?_⟩) (fun z => ⟨sL_10, ?_⟩)
  · rw [if_neg (by omega), if_neg (by omega), Int.add_zero] at h
    exact h
  · rw [if_pos (by omega), if_pos (by omega)] at h
    refine nm_r (sL_div10 (a := (r : Int)) (by omega)) (nm_r (sI_p1 _) ⟨bI_n _, ?_⟩)
    rw [Int.natCast_tdiv_eq_ediv]
    exact h
theorem xf_short1 (post : Int32 → SX → Prop) (ra : Int32) (co ex : Nat → Int32) (P mode : Nat) (neg tail : Bool) (m : Nat) (s : Int) (K : Nat)
    (hP : 3 ≤ P ∧ P ≤ 7) (hK : K ≤ 18) (hmm : m < 9 * 10 ^ 18) (h1 : m / 10 ^ K < 10 ^ P) (h2 : K = 0 ∨ 10 ^ P ≤ m / 10 ^ (K - 1))
    (h : wX_shorten_34 post (sI_ (K : Int)) (sL_ ((10 ^ P : Nat) : Int)) (sI_ (mode : Int)) ra (bI_ neg) (sL_ (m : Int)) (sI_ s) (bI_ tail) co ex) :
    ∀ d i : Nat, i + d = K → wX_shorten_7 post (sL_ ((10 ^ P : Nat) : Int)) (sI_ (mode : Int)) ra (bI_ neg) (sL_ (m : Int)) (sI_ s) (bI_ tail) co ex (d + 1) (sI_ (i : Int)) (sL_ ((m / 10 ^ i : Nat) : Int)) := by
  have hp := yf_p hP
  intro d
  induction d with
  | zero =>
    intro i hi
    have : i = K := by omega
    subst this
    have hn1 := Int.natCast_nonneg (m / 10 ^ i)
    have hq : m / 10 ^ i ≤ m := Nat.div_le_self _ _
    generalize hT : 10 ^ P = T at *
    generalize hM : m / 10 ^ i = x at *
    exact sI_bLe 18 (i : Int) (fun _ => h) (fun _ => sL_bLt (x : Int) (T : Int) (fun _ => h) (fun hh => by omega))
  | succ d ih =>
    intro i hi
    have g1 : m / 10 ^ (K - 1) ≤ m / 10 ^ i := xf_dle m (by omega)
    have hq : m / 10 ^ i ≤ m := Nat.div_le_self _ _
    have g2 : m / 10 ^ i / 10 = m / 10 ^ (i + 1) := by rw [Nat.pow_succ, Nat.div_div_eq_div_mul]
    have hi1 := ih (i + 1) (by omega)
    have g3 : 10 ^ P ≤ m / 10 ^ i := by
      rcases h2 with h2 | h2
      · omega
      · exact Nat.le_trans h2 g1
    rw [← g2] at hi1
    clear h h1 h2 g1 g2 ih
    generalize hT : 10 ^ P = T at *
    generalize hM : m / 10 ^ i = x at *
    refine sI_bLe 18 (i : Int) (fun hh => by omega) (fun _ => sL_bLt (x : Int) (T : Int) (fun hh => by omega) (fun _ => ⟨sL_10, nm_r (sL_div10 (a := (x : Int)) (by omega)) (nm_r (sI_add i 1) ?_)⟩))
    rw [Int.natCast_tdiv_eq_ediv]
    exact hi1
theorem xf_short {post : Int32 → SX → Prop} {ra : Int32} {co ex : Nat → Int32} (P mode : Nat) (neg tail : Bool) (m : Nat) (s : Int) (K : Nat)
    (hP : 3 ≤ P ∧ P ≤ 7) (hm : mode ≤ 6) (hK : K ≤ 18) (hmm : m < 9 * 10 ^ 18) (h1 : m / 10 ^ K < 10 ^ P) (h2 : K = 0 ∨ 10 ^ P ≤ m / 10 ^ (K - 1))
    (h : post (bI_ (decide (m % 10 ^ K ≠ 0) || tail)) (sL_ ((10 ^ P : Nat) : Int), sI_ (mode : Int), ra, bI_ neg, sL_ (rc_ P (rq_ mode neg m K tail) : Int), sI_ (s + K + re_ P (rq_ mode neg m K tail)), bI_ tail, co, ex)) :
    wpX_shorten post (sL_ ((10 ^ P : Nat) : Int), sI_ (mode : Int), ra, bI_ neg, sL_ (m : Int), sI_ s, bI_ tail, co, ex) := by
  have k := xf_short1 post ra co ex P mode neg tail m s K hP hK hmm h1 h2 (xf_34 P mode neg tail m s K hP hm hK hmm h1 h) K 0 (by omega)
  rw [Nat.pow_zero, Nat.div_one] at k
  exact ⟨_, k⟩
theorem xf_store {post : SX → Prop} {li : Int64} {ro ra sc ta e : Int32} {co ex : Nat → Int32} (neg : Bool) (m d : Nat) (hd : d < 6)
    (h : post (li, ro, ra, bI_ neg, sL_ (m : Int), sc, ta, upd co d (sI_ (sg_ neg m)), upd ex d e)) :
    wpX_store post (li, ro, ra, bI_ neg, sL_ (m : Int), sc, ta, co, ex) (sI_ (d : Int)) e := by
  have k : ∀ z : Int, z = sg_ neg m → wX_store_24 post (sI_ (d : Int)) e (sL_ z) (sI_ (d : Int)) li ro ra (bI_ neg) (sL_ (m : Int)) sc ta co ex := by
    intro z hz
    subst hz
    unfold wX_store_24
    rw [sI_cl (by omega), sL_i]
    exact ⟨sI_in hd (by omega), nm_e ⟨sI_in hd (by omega), nm_e h⟩⟩
  refine bI_br neg (fun b => k _ ?_) (fun b => ?_)
  · rw [b]; rfl
  · rw [sL_neg]; refine k _ ?_; rw [b]; rfl
def KX_ (post : Int32 → SX → Prop) (li : Int64) (ro : Int32) (t : Int32 × Int32 × (Nat → Int32) × (Nat → Int32)) : Prop :=
  ∀ (ne : Int32) (ma : Int64) (sc ta : Int32), post t.1 (li, ro, t.2.1, ne, ma, sc, ta, t.2.2.1, t.2.2.2)
theorem xf_fin0 {post : Int32 → SX → Prop} {li : Int64} {ro ra sc ta : Int32} {co ex : Nat → Int32} (neg : Bool) (w : Int) (d : Nat) (hd : d < 6) (hw : -1000 ≤ w ∧ w ≤ 1000)
    (h : KX_ post li ro (rs_ neg 0 w 0 ra co ex d)) :
    wpX_finish post (li, ro, ra, bI_ neg, sL_ ((0 : Nat) : Int), sc, ta, co, ex) (sI_ (d : Int)) (sI_ w) := by
  unfold rs_ at h
  rw [if_neg (by omega), show ra ||| 0 = ra from Int32.or_zero] at h
  have k : ∀ x : Int32, x = sI_ (cl_ w) → wpX_store (fun u => match u with | (f_limit_58, f_rounding_59, f_raised_60, f_negative_61, f_magnitude_62, f_scale_63, f_tail_64, a_coefficients_65, a_exponents_66) => (post 0 (f_limit_58, f_rounding_59, f_raised_60, f_negative_61, f_magnitude_62, f_scale_63, f_tail_64, a_coefficients_65, a_exponents_66))) (li, ro, ra, bI_ neg, sL_ ((0 : Nat) : Int), sc, ta, co, ex) (sI_ (d : Int)) x := by
    intro x hx
    subst hx
    exact xf_store neg 0 d hd (h _ _ _ _)
  refine br_t rfl (sI_bLe (-20) w (fun z => sI_bLe w 20 (fun z2 => k _ ?_) (fun z2 => k _ ?_)) (fun z => k _ ?_))
  · unfold cl_; rw [if_neg (by omega), if_neg (by omega)]
  · unfold cl_; rw [if_neg (by omega), if_pos (by omega)]; rfl
  · unfold cl_; rw [if_pos (by omega)]; rfl
theorem xf_fin {post : Int32 → SX → Prop} {ra : Int32} {co ex : Nat → Int32} (P mode : Nat) (neg tail : Bool) (m : Nat) (s w : Int) (K d : Nat)
    (hP : 3 ≤ P ∧ P ≤ 7) (hm : mode ≤ 6) (hd : d < 6) (hs : -1000 ≤ s ∧ s ≤ 1000) (hw : -1000 ≤ w ∧ w ≤ 1000) (hK : K ≤ 18) (hmm : m < 9 * 10 ^ 18) (hm0 : m ≠ 0) (h1 : m / 10 ^ K < 10 ^ P) (h2 : K = 0 ∨ 10 ^ P ≤ m / 10 ^ (K - 1))
    (h : KX_ post (sL_ ((10 ^ P : Nat) : Int)) (sI_ (mode : Int)) (rs_ neg (rc_ P (rq_ mode neg m K tail)) (s + K + re_ P (rq_ mode neg m K tail))
      (if m % 10 ^ K ≠ 0 ∨ tail = true then 3 else if w < s + K + re_ P (rq_ mode neg m K tail) then 2 else 0) ra co ex d)) :
    wpX_finish post (sL_ ((10 ^ P : Nat) : Int), sI_ (mode : Int), ra, bI_ neg, sL_ (m : Int), sI_ s, bI_ tail, co, ex) (sI_ (d : Int)) (sI_ w) := by
  have hp := yf_p hP
  have hr := xf_rq mode neg m K tail
  have hq0 : 1 ≤ m / 10 ^ K := by
    rcases h2 with h2 | h2
    · subst h2; rw [Nat.pow_zero, Nat.div_one]; omega
    · by_cases c : K = 0
      · subst c; rw [Nat.pow_zero, Nat.div_one]; omega
      · have e : m / 10 ^ K = m / 10 ^ (K - 1) / 10 := by
          rw [Nat.div_div_eq_div_mul, ← Nat.pow_succ, show (K - 1).succ = K from by omega]
        rw [e]
        generalize m / 10 ^ (K - 1) = x at *
        omega
  have hc0 : rc_ P (rq_ mode neg m K tail) ≠ 0 := by
    unfold rc_
    generalize rq_ mode neg m K tail = r at *
    by_cases c : 10 ^ P ≤ r
    · rw [if_pos c]; omega
    · rw [if_neg c]; omega
  have he : -2000 ≤ s + K + re_ P (rq_ mode neg m K tail) ∧ s + K + re_ P (rq_ mode neg m K tail) ≤ 2000 := by
    unfold re_
    by_cases c : 10 ^ P ≤ rq_ mode neg m K tail
    · rw [if_pos c]; omega
    · rw [if_neg c]; omega
  refine br_f (sL_n0 (by omega) (by omega)) (xf_short P mode neg tail m s K hP hm hK hmm h1 h2 ?_)
  generalize hE : s + K + re_ P (rq_ mode neg m K tail) = E at *
  generalize hC : rc_ P (rq_ mode neg m K tail) = C at *
  have kr : (E < -20 ∨ 20 < E) → wpX_raise (fun r_46 u => match u with | (f_limit_47, f_rounding_48, f_raised_49, f_negative_50, f_magnitude_51, f_scale_52, f_tail_53, a_coefficients_54, a_exponents_55) => (post r_46 (f_limit_47, f_rounding_48, f_raised_49, f_negative_50, f_magnitude_51, f_scale_52, f_tail_53, a_coefficients_54, a_exponents_55))) (sL_ ((10 ^ P : Nat) : Int), sI_ (mode : Int), ra, bI_ neg, sL_ (C : Int), sI_ E, bI_ tail, co, ex) 8 := by
    intro c
    unfold rs_ at h
    rw [if_pos ⟨hc0, c⟩] at h
    exact nm_e (h _ _ _ _)
  refine sI_bLt E (-20) (fun z => br_t rfl (kr (Or.inl z))) (fun z => sI_bLt 20 E (fun z2 => br_t rfl (kr (Or.inr z2))) (fun z2 => br_f (by decide) ?_))
  unfold rs_ at h
  have hcl : cl_ E = E := by unfold cl_; rw [if_neg (by omega), if_neg (by omega)]
  rw [if_neg (by omega), hcl] at h
  refine xf_store neg C d hd ?_
  refine bI_br _ (fun z3 => ?_) (fun z3 => ?_)
  · rw [Bool.or_eq_false_iff, decide_eq_false_iff_not] at z3
    have nn : ¬ (m % 10 ^ K ≠ 0 ∨ tail = true) := by
      rw [z3.2]
      intro c
      rcases c with c | c
      · exact z3.1 c
      · exact absurd c (by decide)
    rw [if_neg nn] at h
    refine sI_bLe E w (fun z4 => ?_) (fun z4 => ?_)
    · rw [if_neg (by omega)] at h
      exact nm_e (h _ _ _ _)
    · rw [if_pos (by omega)] at h
      exact nm_e (h _ _ _ _)
  · rw [Bool.or_eq_true, decide_eq_true_eq] at z3
    rw [if_pos z3] at h
    exact nm_e (h _ _ _ _)
end
section
/-- from the reference's whole number M to the number m = M / 10^j that the unit holds -/
theorem mm_e {R l u H : Nat} (hl : l < u) :
    (2 * H * u < 2 * (R * u + l) ↔ (2 * H < 2 * R ∨ (2 * R = 2 * H ∧ l ≠ 0))) ∧ (2 * (R * u + l) = 2 * H * u ↔ (2 * R = 2 * H ∧ l = 0)) ∧ (R * u + l = 0 ↔ (R = 0 ∧ l = 0)) := by
  have e : 2 * H * u = 2 * (H * u) := by rw [Nat.mul_assoc]
  rw [e]
  have z : R * u + l = 0 ↔ (R = 0 ∧ l = 0) := by
    constructor
    · intro h
      have h1 : R * u = 0 := by omega
      rcases Nat.mul_eq_zero.1 h1 with h2 | h2
      · exact ⟨h2, by omega⟩
      · omega
    · intro h
      rw [h.1, h.2, Nat.zero_mul]
  refine ⟨?_, ?_, z⟩
  · rcases Nat.lt_trichotomy H R with c | c | c
    · have := Nat.mul_le_mul_right u (show H + 1 ≤ R from c)
      rw [Nat.add_mul, Nat.one_mul] at this
      constructor <;> intro <;> omega
    · subst c
      constructor <;> intro <;> omega
    · have := Nat.mul_le_mul_right u (show R + 1 ≤ H from c)
      rw [Nat.add_mul, Nat.one_mul] at this
      constructor <;> intro <;> omega
  · rcases Nat.lt_trichotomy H R with c | c | c
    · have := Nat.mul_le_mul_right u (show H + 1 ≤ R from c)
      rw [Nat.add_mul, Nat.one_mul] at this
      constructor <;> intro <;> omega
    · subst c
      constructor <;> intro <;> omega
    · have := Nat.mul_le_mul_right u (show R + 1 ≤ H from c)
      rw [Nat.add_mul, Nat.one_mul] at this
      constructor <;> intro <;> omega
theorem mm_ru {R l u H : Nat} (mode : Nat) (neg : Bool) (q : Nat) (more : Bool) (hl : l < u) :
    ru_ mode neg q (R * u + l) (2 * H * u) more = ru_ mode neg q R (2 * H) (more || decide (l ≠ 0)) := by
  obtain ⟨e1, e2, e0⟩ := mm_e (R := R) (H := H) hl
  have e3 : 2 * H * u ≤ 2 * (R * u + l) ↔ 2 * H ≤ 2 * R := by
    rw [show 2 * H * u ≤ 2 * (R * u + l) ↔ (2 * H * u < 2 * (R * u + l) ∨ 2 * (R * u + l) = 2 * H * u) from by omega, e1, e2]
    omega
  unfold ru_
  by_cases z : R * u + l = 0 ∧ more = false
  · rw [if_pos z, if_pos]
    have := e0.1 z.1
    refine ⟨this.1, ?_⟩
    rw [z.2, this.2]; rfl
  · have z2 : ¬ (R = 0 ∧ (more || decide (l ≠ 0)) = false) := by
      intro c
      rw [Bool.or_eq_false_iff, decide_eq_false_iff_not, Decidable.not_not] at c
      exact z ⟨e0.2 ⟨c.1, c.2.2⟩, c.2.1⟩
    rw [if_neg z, if_neg z2]
    have k1 : (2 * H * u < 2 * (R * u + l) ∨ (2 * (R * u + l) = 2 * H * u ∧ (more = true ∨ q % 2 = 1))) ↔ (2 * H < 2 * R ∨ (2 * R = 2 * H ∧ ((more || decide (l ≠ 0)) = true ∨ q % 2 = 1))) := by
      rw [e1, e2, Bool.or_eq_true, decide_eq_true_eq]
      cases more <;> simp <;> omega
    have k2 : (2 * H * u < 2 * (R * u + l) ∨ (2 * (R * u + l) = 2 * H * u ∧ more = true)) ↔ (2 * H < 2 * R ∨ (2 * R = 2 * H ∧ ((more || decide (l ≠ 0)) = true))) := by
      rw [e1, e2, Bool.or_eq_true, decide_eq_true_eq]
      cases more <;> simp <;> omega
    rw [decide_eq_decide.2 k1, decide_eq_decide.2 k2, decide_eq_decide.2 e3]
theorem mm_rq (mode : Nat) (neg : Bool) (M j K : Nat) (more : Bool) (hK : 1 ≤ K) :
    rq_ mode neg M (K + j) more = rq_ mode neg (M / 10 ^ j) K (more || decide (M % 10 ^ j ≠ 0)) := by
  obtain ⟨i, rfl⟩ : ∃ i, K = i + 1 := ⟨K - 1, by omega⟩
  have e1 : M / 10 ^ (i + 1 + j) = M / 10 ^ j / 10 ^ (i + 1) := by
    rw [Nat.div_div_eq_div_mul, ← Nat.pow_add, Nat.add_comm j]
  have e2 : M % 10 ^ (i + 1 + j) = M / 10 ^ j % 10 ^ (i + 1) * 10 ^ j + M % 10 ^ j := by
    rw [Nat.add_comm (i + 1) j, Nat.pow_add, Nat.mod_mul, Nat.mul_comm]; omega
  have e3 : 10 ^ (i + 1 + j) = 2 * (5 * 10 ^ i) * 10 ^ j := by
    rw [Nat.pow_add, Nat.pow_succ]; grind
  have e4 : 10 ^ (i + 1) = 2 * (5 * 10 ^ i) := by
    rw [Nat.pow_succ]; grind
  have e5 := mm_ru (R := M / 10 ^ j % 10 ^ (i + 1)) (H := 5 * 10 ^ i) mode neg (M / 10 ^ j / 10 ^ (i + 1)) more (Nat.mod_lt M (tn_ j))
  rw [← e3, ← e2, ← e4] at e5
  unfold rq_
  rw [e1, e5]
theorem mm_dvd {M b k : Nat} (h : M % 10 ^ b = 0) (hk : k ≤ b) : M % 10 ^ k = 0 := by
  obtain ⟨x, hx⟩ := Nat.dvd_of_mod_eq_zero h
  rw [hx, show b = k + (b - k) from by omega, Nat.pow_add, Nat.mul_assoc]
  exact Nat.mul_mod_right _ _
theorem mm_c {M b k : Nat} (h : M % 10 ^ b = 0) (hk : k ≤ b) : M / 10 ^ b * 10 ^ (b - k) = M / 10 ^ k := by
  obtain ⟨x, hx⟩ := Nat.dvd_of_mod_eq_zero h
  rw [hx, Nat.mul_div_cancel_left _ (tn_ b)]
  conv => rhs; rw [show b = k + (b - k) from by omega, Nat.pow_add, Nat.mul_assoc, Nat.mul_div_cancel_left _ (tn_ k)]
  rw [Nat.mul_comm]
theorem mm_t {M t a : Nat} (h1 : 10 ^ t ≤ M) (h2 : M < 10 ^ (t + 1)) (h3 : 10 ^ a ≤ M) (h4 : M < 10 ^ (a + 1)) : t = a := by
  have := dd_rv (a := t) (b := a + 1) (by omega)
  have := dd_rv (a := a) (b := t + 1) (by omega)
  omega
theorem mm_rq0 (mode : Nat) (neg : Bool) (m K : Nat) (h : m % 10 ^ K = 0) : rq_ mode neg m K false = m / 10 ^ K := by
  have e : ru_ mode neg (m / 10 ^ K) (m % 10 ^ K) (10 ^ K) false = false := by
    unfold ru_; rw [if_pos ⟨h, rfl⟩]
  unfold rq_
  rw [e, if_neg (by decide)]
theorem mm_fin {P mode : Nat} {neg : Bool} {M : Nat} {low : Int} {more : Bool} {w : Int} {c : Nat} {e : Int} {f : Int32} {m j K : Nat} {tail : Bool} {s : Int}
    (hP : 3 ≤ P ∧ P ≤ 7) (hm : M / 10 ^ j = m) (hm0 : m ≠ 0) (ht : tail = (more || decide (M % 10 ^ j ≠ 0))) (hs : s = low + j)
    (hK1 : m / 10 ^ K < 10 ^ P) (hK2 : K = 0 ∨ 10 ^ P ≤ m / 10 ^ (K - 1)) (htl : tail = true → 10 ^ P ≤ m)
    (hw : tail = false → (w ≤ s ∧ (m < 10 ^ P → s = w)) ∨ (s < w ∧ m % 10 ≠ 0))
    (h : fin_ P mode neg M low more w c e f) :
    c = rc_ P (rq_ mode neg m K tail) ∧ e = s + K + re_ P (rq_ mode neg m K tail) ∧
    f = (if m % 10 ^ K ≠ 0 ∨ tail = true then 3 else if w < s + K + re_ P (rq_ mode neg m K tail) then 2 else 0) := by
  have hM : M = m * 10 ^ j + M % 10 ^ j := by
    rw [← hm, Nat.mul_comm]; exact (Nat.div_add_mod M (10 ^ j)).symm
  have hl : M % 10 ^ j < 10 ^ j := Nat.mod_lt _ (tn_ j)
  have hMs : M % 10 ^ (K + j) = m % 10 ^ K * 10 ^ j + M % 10 ^ j := by
    rw [Nat.add_comm K j, Nat.pow_add, Nat.mod_mul, hm, Nat.mul_comm]; omega
  have hMd : M / 10 ^ (K + j) = m / 10 ^ K := by
    rw [← hm, Nat.div_div_eq_div_mul, ← Nat.pow_add, Nat.add_comm j]
  -- where the top digit of M is
  have hup : M < 10 ^ (P + K + j) := by
    have a1 : m < 10 ^ (P + K) := by
      have := (Nat.div_lt_iff_lt_mul (tn_ K)).1 hK1
      rw [Nat.pow_add]; exact this
    have a2 := Nat.mul_le_mul_right (10 ^ j) (show m + 1 ≤ 10 ^ (P + K) from a1)
    rw [Nat.add_mul, Nat.one_mul, ← Nat.pow_add] at a2
    omega
  have hlow : 1 ≤ K → 10 ^ (P + K + j - 1) ≤ M := by
    intro k1
    have b1 : 10 ^ P ≤ m / 10 ^ (K - 1) := by
      rcases hK2 with hK2 | hK2
      · omega
      · exact hK2
    have b2 := (Nat.le_div_iff_mul_le (tn_ (K - 1))).1 b1
    have b3 := Nat.mul_le_mul_right (10 ^ j) b2
    rw [← Nat.pow_add, ← Nat.pow_add, show P + (K - 1) + j = P + K + j - 1 from by omega] at b3
    omega
  rcases h with h | h | h
  · obtain ⟨z, -⟩ := h
    subst z
    rw [Nat.zero_div] at hm
    exact absurd hm.symm hm0
  · obtain ⟨t, b, g1, g2, g3, g4, g5, g6, g7, ge, gc, gf⟩ := h
    have htk : 1 ≤ K → t = P + K + j - 1 := fun k1 => mm_t g1 g2 (hlow k1) (by rw [show P + K + j - 1 + 1 = P + K + j from by omega]; exact hup)
    have hjb : j ≤ b ∧ K + j ≤ b := by
      by_cases k1 : 1 ≤ K
      · have := htk k1; omega
      · have k0 : K = 0 := by omega
        subst k0
        rw [Nat.pow_zero, Nat.div_one] at hK1
        have tf : tail = false := by
          cases tail
          · rfl
          · have := htl rfl; omega
        rw [tf] at ht
        have ht2 := (Bool.or_eq_false_iff.1 ht.symm).2
        rw [decide_eq_false_iff_not, Decidable.not_not] at ht2
        by_cases c1 : j ≤ b
        · omega
        · exact absurd (mm_dvd ht2 (by omega)) g4
    have ml : M % 10 ^ j = 0 := mm_dvd g3 hjb.1
    have mk : M % 10 ^ (K + j) = 0 := mm_dvd g3 hjb.2
    have tf : tail = false := by rw [ht, g6, ml]; rfl
    have mk2 : m % 10 ^ K = 0 := by
      rw [ml, Nat.add_zero, mk] at hMs
      rcases Nat.mul_eq_zero.1 hMs.symm with c1 | c1
      · exact c1
      · have := tn_ j; omega
    subst tf
    have hr : rq_ mode neg m K false = m / 10 ^ K := mm_rq0 mode neg m K mk2
    have hrc : rc_ P (m / 10 ^ K) = m / 10 ^ K := by unfold rc_; rw [if_neg (by omega)]
    have hre : re_ P (m / 10 ^ K) = 0 := by unfold re_; rw [if_neg (by omega)]
    rw [hr, hrc, hre, Int.add_zero]
    have he : e = s + K := by
      rw [ge]
      by_cases k1 : 1 ≤ K
      · have t1 := htk k1
        have : w < low + t + 1 - P := by
          rcases hw rfl with c1 | c1
          · omega
          · have : m % 10 ^ 1 = 0 := mm_dvd mk2 k1
            rw [Nat.pow_one] at this
            exact absurd this c1.2
        rw [if_pos this]
        omega
      · have k0 : K = 0 := by omega
        subst k0
        rw [Nat.pow_zero, Nat.div_one] at hK1
        have t1 : t < P + 0 + j := dd_rv (by omega)
        rcases hw rfl with c1 | c1
        · have := c1.2 hK1
          rw [if_neg (by omega), if_neg (by omega)]
          omega
        · have b1 : b = j := by
            by_cases c2 : j + 1 ≤ b
            · have := mm_dvd g3 c2
              rw [Nat.add_comm j 1, Nat.add_comm 1 j, Nat.pow_succ, Nat.mod_mul, hm, ml] at this
              have c3 : 10 ^ j * (m % 10) = 0 := by omega
              rcases Nat.mul_eq_zero.1 c3 with c4 | c4
              · have := tn_ j; omega
              · exact absurd c4 c1.2
            · omega
          rw [if_neg (by omega), if_pos (by omega)]
          omega
    refine ⟨?_, he, ?_⟩
    · rw [gc, he, show (low + b - (s + K)).toNat = b - (K + j) from by omega, mm_c g3 hjb.2, hMd]
    · have nn : ¬ (m % 10 ^ K ≠ 0 ∨ (false : Bool) = true) := by rw [mk2]; simp
      rw [gf, he, if_neg nn]
  · obtain ⟨t, g1, g2, g3, g4, gc, ge, gf⟩ := h
    have k1 : 1 ≤ K := by
      by_cases k1 : 1 ≤ K
      · exact k1
      · have k0 : K = 0 := by omega
        subst k0
        rw [Nat.pow_zero, Nat.div_one] at hK1
        have tf : tail = false := by
          cases tail
          · rfl
          · have := htl rfl; omega
        rw [tf] at ht
        have ht2 := Bool.or_eq_false_iff.1 ht.symm
        rw [decide_eq_false_iff_not, Decidable.not_not] at ht2
        have t1 : t < P + 0 + j := dd_rv (by omega)
        rcases g4 with g4 | g4
        · rw [ht2.1] at g4; exact absurd g4 (by decide)
        · exact absurd (mm_dvd ht2.2 (by omega)) g4
    have t1 : t = P + K + j - 1 := mm_t g1 g2 (hlow k1) (by rw [show P + K + j - 1 + 1 = P + K + j from by omega]; exact hup)
    have t2 : t + 1 - P = K + j := by omega
    rw [t2] at g4 gc ge
    have hr := mm_rq mode neg M j K more k1
    rw [hm, ← ht] at hr
    rw [hr] at gc ge
    refine ⟨gc, by omega, ?_⟩
    rw [gf, if_pos]
    by_cases z : m % 10 ^ K = 0
    · right
      rw [ht]
      rcases g4 with g4 | g4
      · rw [g4]; rfl
      · rw [hMs, z, Nat.zero_mul, Nat.zero_add] at g4
        rw [decide_eq_true g4, Bool.or_true]
    · exact Or.inl z
end
section
/-- X: sums -/
theorem xs_dm {T a r U : Nat} (h : T = a * U + r) (hr : r < U) : T / U = a ∧ T % U = r := by
  subst h
  refine ⟨?_, ?_⟩
  · rw [Nat.add_comm, Nat.add_mul_div_right _ _ (by omega), Nat.div_eq_of_lt hr]; omega
  · rw [Nat.add_comm, Nat.add_mul_mod_self_right, Nat.mod_eq_of_lt hr]
theorem xs_1 {T t B : Int} {U : Nat} (a r : Nat) (e : Int) (hT : T = e * ((a * U + r : Nat) : Int)) (he : e = 1 ∨ e = -1) : T.natAbs = a * U + r := by
  rcases he with he | he
  · subst he; omega
  · subst he; omega
theorem xs_pure {T t B : Int} {U : Nat} (hT : T = t * U + B) (hB : -(U : Int) < B ∧ B < U) (h2 : B ≠ 0 → 2 ≤ t.natAbs) (u : Int) (hu : u = if 0 < B ∧ t < 0 then t + 1 else if B < 0 ∧ 0 < t then t - 1 else t) :
    T.natAbs / U = u.natAbs ∧ (T.natAbs % U ≠ 0 ↔ B ≠ 0) ∧ (T < 0 ↔ u < 0) := by
  have key : ∀ (r : Nat) (e : Int), (e = 1 ∨ e = -1) → T = e * ((u.natAbs : Int) * U + r) → r < U → (r ≠ 0 ↔ B ≠ 0) → T.natAbs / U = u.natAbs ∧ (T.natAbs % U ≠ 0 ↔ B ≠ 0) := by
    intro r e he h3 h4 h5
    have : T.natAbs = u.natAbs * U + r := by
      have h6 : ((u.natAbs * U + r : Nat) : Int) = (u.natAbs : Int) * U + r := by rw [Int.natCast_add, Int.natCast_mul]
      rw [← h6] at h3
      rcases he with he | he
      · subst he; omega
      · subst he; omega
    have := xs_dm this h4
    rw [this.1, this.2]
    exact ⟨rfl, h5⟩
  by_cases c1 : 0 < B ∧ t < 0
  · rw [if_pos c1] at hu
    have := h2 (by omega)
    have e1 : (u.natAbs : Int) = -(t + 1) := by omega
    have k := key (U - B.toNat) (-1) (Or.inr rfl) (by rw [e1, hT, show ((U - B.toNat : Nat) : Int) = U - B from by omega]; grind) (by omega) (by omega)
    refine ⟨k.1, k.2, ?_⟩
    have m1 : t * (U : Int) ≤ (-1) * U := Int.mul_le_mul_of_nonneg_right (by omega) (by omega)
    constructor <;> intro <;> omega
  · rw [if_neg c1] at hu
    by_cases c2 : B < 0 ∧ 0 < t
    · rw [if_pos c2] at hu
      have := h2 (by omega)
      have e1 : (u.natAbs : Int) = t - 1 := by omega
      have k := key (U - (-B).toNat) 1 (Or.inl rfl) (by rw [e1, hT, show ((U - (-B).toNat : Nat) : Int) = U + B from by omega]; grind) (by omega) (by omega)
      refine ⟨k.1, k.2, ?_⟩
      have m1 : 1 * (U : Int) ≤ t * U := Int.mul_le_mul_of_nonneg_right (by omega) (by omega)
      constructor <;> intro <;> omega
    · rw [if_neg c2] at hu
      subst hu
      by_cases c3 : 0 ≤ u
      · have e1 : (u.natAbs : Int) = u := by omega
        have b0 : 0 ≤ B := by
          by_cases b : B < 0
          · have := h2 (by omega); omega
          · omega
        have k := key B.toNat 1 (Or.inl rfl) (by rw [e1, hT, show ((B.toNat : Nat) : Int) = B from by omega]; grind) (by omega) (by omega)
        refine ⟨k.1, k.2, ?_⟩
        have m1 : 0 ≤ u * (U : Int) := Int.mul_nonneg c3 (by omega)
        constructor <;> intro <;> omega
      · have e1 : (u.natAbs : Int) = -u := by omega
        have b0 : B ≤ 0 := by omega
        have k := key (-B).toNat (-1) (Or.inr rfl) (by rw [e1, hT, show (((-B).toNat : Nat) : Int) = -B from by omega]; grind) (by omega) (by omega)
        refine ⟨k.1, k.2, ?_⟩
        have m1 : u * (U : Int) ≤ (-1) * U := Int.mul_le_mul_of_nonneg_right (by omega) (by omega)
        constructor <;> intro <;> omega
theorem xs_109 {post : SX → Prop} {li ma : Int64} {ro ra ne sc ta : Int32} {co ex : Nat → Int32} (e u B : Int) (f : Nat) (hu : -9000000000000000000 < u ∧ u < 9000000000000000000) (hB : -9000000000000000000 < B ∧ B < 9000000000000000000)
    (h : post (li, ro, ra, bI_ (decide (u < 0)), sL_ (u.natAbs : Int), sI_ (e + f), bI_ (decide (B ≠ 0)), co, ex)) :
    wX_holdOrderedSum_109 post (sI_ e) (sI_ (f : Int)) (sL_ u) (sL_ B) li ro ra ne ma sc ta co ex := by
  unfold wX_holdOrderedSum_109
  rw [sI_add]
  refine xa_hold u (by omega) (sL_bEq B 0 (fun z => ?_) (fun z => ?_))
  · rw [decide_eq_false (show ¬ B ≠ 0 from by omega)] at h
    exact h
  · rw [decide_eq_true (show B ≠ 0 from z)] at h
    exact h
theorem xs_44 {post : SX → Prop} {li ma : Int64} {ro ra ne sc ta : Int32} {co ex : Nat → Int32} (e l wide T : Int) (f : Nat) (hl : l.natAbs < 10 ^ 15) (hw : wide.natAbs < 10 ^ 18) (hf : f < 1000) (hT : wide * 10 ^ f + l = T) (hx : f = 0 ∨ 10 ^ 17 ≤ wide.natAbs)
    (h : (f = 0 ∨ 10 ^ 7 ≤ T.natAbs / 10 ^ f) → T.natAbs / 10 ^ f < 9 * 10 ^ 18 → post (li, ro, ra, bI_ (decide (T < 0)), sL_ ((T.natAbs / 10 ^ f : Nat) : Int), sI_ (e + f), bI_ (decide (T.natAbs % 10 ^ f ≠ 0)), co, ex)) :
    wX_holdOrderedSum_44 post (sL_ l) (sI_ e) (sL_ wide) (sI_ (f : Int)) li ro ra ne ma sc ta co ex := by
  obtain ⟨N, hN⟩ : ∃ N, (N = f ∧ f ≤ 18) ∨ (N = 18 ∧ 18 ≤ f) := by
    by_cases c : f ≤ 18
    · exact ⟨f, Or.inl ⟨rfl, c⟩⟩
    · exact ⟨18, Or.inr ⟨rfl, by omega⟩⟩
  have hp : 10 ^ N ≤ 10 ^ 18 := dd_le (by omega)
  have ht := tn_ N
  have hd1 : l = l.tdiv (10 ^ N : Nat) * (10 ^ f : Nat) + l.tmod (10 ^ N : Nat) := by
    rcases hN with c | c
    · rw [c.1]; exact (Int.tdiv_mul_add_tmod l _).symm
    · have z : l.tdiv (10 ^ N : Nat) = 0 := by
        have a1 : (l.tdiv (10 ^ N : Nat)).natAbs = 0 := by
          rw [Int.natAbs_tdiv, Int.natAbs_natCast]
          exact Nat.div_eq_of_lt (by rw [c.1]; omega)
        omega
      have := Int.tdiv_mul_add_tmod l (10 ^ N : Nat)
      rw [z] at this ⊢
      omega
  have hb1 : (l.tmod (10 ^ N : Nat)).natAbs < 10 ^ N ∧ (l.tmod (10 ^ N : Nat)).natAbs ≤ l.natAbs := by
    rw [Int.natAbs_tmod, Int.natAbs_natCast]
    exact ⟨Nat.mod_lt _ ht, Nat.mod_le _ _⟩
  have hb2 : 10 ^ N ≤ 10 ^ f := dd_le (by omega)
  have hD := sI_tdR l (10 ^ N : Nat)
  have hB0 : f = 0 → l.tmod (10 ^ N : Nat) = 0 := by
    intro z
    have : N = 0 := by omega
    subst this
    have := hb1.1
    omega
  unfold wX_holdOrderedSum_44
  refine xa_pow f N (by omega) hN ?_
  generalize 10 ^ N = U at *
  have hu0 : ¬ sL_ (U : Int) = 0 := sL_n0 (by omega) (by omega)
  have e1 : sL_ l / sL_ (U : Int) = sL_ (l.tdiv U) := sL_div (by omega) (by omega)
  have e2 : sL_ l - sL_ l / sL_ (U : Int) * sL_ (U : Int) = sL_ (l.tmod U) := sL_rem (by omega) (by omega)
  refine ⟨hu0, nm_r (e' := sL_ (wide + l.tdiv U)) (by rw [e1, sL_add]) ⟨hu0, nm_r e2 ?_⟩⟩
  generalize l.tdiv U = D at *
  generalize l.tmod U = B at *
  generalize ht0 : wide + D = t at *
  have hTt : T = t * ((10 ^ f : Nat) : Int) + B := by
    rw [← hT, ← ht0, tc_ f]
    rw [tc_ f] at hd1
    grind
  have hB2 : B ≠ 0 → 2 ≤ t.natAbs := by
    intro z
    rcases hx with hx | hx
    · exact absurd (hB0 hx) z
    · omega
  have pure := fun u hu => xs_pure (U := 10 ^ f) hTt (by omega) hB2 u hu
  have fin : ∀ u : Int, u = (if 0 < B ∧ t < 0 then t + 1 else if B < 0 ∧ 0 < t then t - 1 else t) → wX_holdOrderedSum_109 post (sI_ e) (sI_ (f : Int)) (sL_ u) (sL_ B) li ro ra ne ma sc ta co ex := by
    intro u hu
    have hq := pure u hu
    have hub : t - 1 ≤ u ∧ u ≤ t + 1 := by
      rw [hu]
      by_cases c1 : 0 < B ∧ t < 0
      · rw [if_pos c1]; omega
      · rw [if_neg c1]
        by_cases c2 : B < 0 ∧ 0 < t
        · rw [if_pos c2]; omega
        · rw [if_neg c2]; omega
    rw [hq.1] at h
    have k := h (by rcases hx with hx | hx
                    · exact Or.inl hx
                    · right; omega) (by omega)
    refine xs_109 e u B f (by omega) (by omega) ?_
    rw [decide_eq_decide.2 hq.2.1, decide_eq_decide.2 hq.2.2] at k
    exact k
  refine sL_bLe B 0 (fun z => ?_) (fun z => sL_bLe 0 t (fun z2 => ?_) (fun z2 => nm_r (sL_add t 1) (fin _ ?_)))
  · refine sL_bLe 0 B (fun z2 => fin _ ?_) (fun z2 => sL_bLe t 0 (fun z3 => fin _ ?_) (fun z3 => nm_r (sL_sub t 1) (fin _ ?_)))
    · rw [if_neg (by omega), if_neg (by omega)]
    · rw [if_neg (by omega), if_neg (by omega)]
    · rw [if_neg (by omega), if_pos (by omega)]
  · refine sL_bLe 0 B (fun z3 => fin _ ?_) (fun z3 => by omega)
    rw [if_neg (by omega), if_neg (by omega)]
  · rw [if_pos (by omega)]
theorem xs_7 (post : SX → Prop) (li ma : Int64) (ro ra ne sc ta : Int32) (co ex : Nat → Int32) (e l T : Int) (g : Nat) (hg : g < 1000)
    (h : ∀ (wide : Int) (f : Nat), f ≤ g → wide.natAbs < 10 ^ 18 → wide * 10 ^ f + l = T → (f = 0 ∨ 10 ^ 17 ≤ wide.natAbs) → wX_holdOrderedSum_44 post (sL_ l) (sI_ e) (sL_ wide) (sI_ (f : Int)) li ro ra ne ma sc ta co ex) :
    ∀ (f : Nat) (wide : Int), f ≤ g → wide.natAbs < 10 ^ 18 → wide * 10 ^ f + l = T → wX_holdOrderedSum_7 post (sL_ l) (sI_ e) li ro ra ne ma sc ta co ex (f + 1) (sL_ wide) (sI_ (f : Int)) := by
  intro f
  induction f with
  | zero =>
    intro wide h1 h2 h3
    exact sI_bLe ((0 : Nat) : Int) 0 (fun _ => h wide 0 h1 h2 h3 (Or.inl rfl)) (fun hh => by omega)
  | succ f ih =>
    intro wide h1 h2 h3
    refine sI_bLe ((f + 1 : Nat) : Int) 0 (fun hh => by omega) (fun _ => sL_bLe 100000000000000000 wide (fun z => h wide (f + 1) h1 h2 h3 (Or.inr (by omega))) (fun z => sL_bLe wide (-100000000000000000) (fun z2 => h wide (f + 1) h1 h2 h3 (Or.inr (by omega))) (fun z2 => nm_r (sL_mul wide 10) (nm_r (sI_m1 ((f + 1 : Nat) : Int)) ?_))))
    have k := ih (wide * 10) (by omega) (by omega) (by rw [← h3, Int.pow_succ]; grind)
    rw [show ((f + 1 : Nat) : Int) - 1 = (f : Int) from by omega]
    exact k
theorem xs_ord {post : SX → Prop} {li ma : Int64} {ro ra ne sc ta : Int32} {co ex : Nat → Int32} (x l e T : Int) (g : Nat) (hx : x.natAbs < 10 ^ 15) (hl : l.natAbs < 10 ^ 15) (hg : g < 1000) (hT : x * 10 ^ g + l = T)
    (h : ∀ f : Nat, f ≤ g → (f = 0 ∨ 10 ^ 7 ≤ T.natAbs / 10 ^ f) → T.natAbs / 10 ^ f < 9 * 10 ^ 18 → post (li, ro, ra, bI_ (decide (T < 0)), sL_ ((T.natAbs / 10 ^ f : Nat) : Int), sI_ (e + f), bI_ (decide (T.natAbs % 10 ^ f ≠ 0)), co, ex)) :
    wpX_holdOrderedSum post (li, ro, ra, ne, ma, sc, ta, co, ex) (sL_ x) (sL_ l) (sI_ e) (sI_ (g : Int)) :=
  ⟨g + 1, xs_7 post li ma ro ra ne sc ta co ex e l T g hg (fun wide f hf hw h3 h4 => xs_44 e l wide T f hl hw (by omega) h3 h4 (h f hf)) g x (Nat.le_refl g) (by omega) hT⟩
theorem xs_sum {post : SX → Prop} {li ma : Int64} {ro ra ne sc ta : Int32} {co ex : Nat → Int32} (x y p q lo T : Int) (hx : x.natAbs < 10 ^ 15) (hy : y.natAbs < 10 ^ 15) (hp : -200 ≤ p ∧ p ≤ 200) (hq : -200 ≤ q ∧ q ≤ 200)
    (hlo : (p < q ∧ lo = p) ∨ (q ≤ p ∧ lo = q)) (hT : x * 10 ^ (p - lo).toNat + y * 10 ^ (q - lo).toNat = T)
    (h : ∀ f : Nat, f ≤ 400 → (f = 0 ∨ 10 ^ 7 ≤ T.natAbs / 10 ^ f) → T.natAbs / 10 ^ f < 9 * 10 ^ 18 → post (li, ro, ra, bI_ (decide (T < 0)), sL_ ((T.natAbs / 10 ^ f : Nat) : Int), sI_ (lo + f), bI_ (decide (T.natAbs % 10 ^ f ≠ 0)), co, ex)) :
    wpX_holdSum post (li, ro, ra, ne, ma, sc, ta, co, ex) (sL_ x) (sI_ p) (sL_ y) (sI_ q) := by
  refine sI_bLt p q (fun z => ?_) (fun z => ?_)
  · have e : lo = p := by omega
    subst e
    rw [Int.sub_self, Int.toNat_zero, Int.pow_zero, Int.mul_one] at hT
    rw [sI_sub, show q - lo = ((q - lo).toNat : Int) from by omega]
    exact xs_ord y x lo T (q - lo).toNat hy hx (by omega) (by rw [Int.add_comm]; exact hT) (fun f hf h1 h2 => h f (by omega) h1 h2)
  · have e : lo = q := by omega
    subst e
    rw [Int.sub_self, Int.toNat_zero, Int.pow_zero, Int.mul_one] at hT
    rw [sI_sub, show p - lo = ((p - lo).toNat : Int) from by omega]
    exact xs_ord x y lo T (p - lo).toNat hx hy (by omega) hT (fun f hf h1 h2 => h f (by omega) h1 h2)
end
section
/-- X: quotients -/
theorem xq_st {A B i : Nat} (hB : 0 < B) : A * 10 ^ (i + 1) / B = A * 10 ^ i / B * 10 + A * 10 ^ i % B * 10 / B ∧ A * 10 ^ (i + 1) % B = A * 10 ^ i % B * 10 % B := by
  have e : A * 10 ^ (i + 1) = (A * 10 ^ i / B * 10 + A * 10 ^ i % B * 10 / B) * B + A * 10 ^ i % B * 10 % B := by
    have h1 := Nat.div_add_mod (A * 10 ^ i) B
    have h2 := Nat.div_add_mod (A * 10 ^ i % B * 10) B
    rw [Nat.pow_succ, ← Nat.mul_assoc]
    generalize A * 10 ^ i / B = q at *
    generalize A * 10 ^ i % B = r at *
    generalize A * 10 ^ i = X at *
    generalize r * 10 / B = q2 at *
    generalize r * 10 % B = r2 at *
    have h3 : (q * 10 + q2) * B + r2 = (B * q) * 10 + (B * q2 + r2) := by grind
    omega
  exact xs_dm e (Nat.mod_lt _ hB)
theorem xq_126 {post : SX → Prop} {li : Int64} {ro ra ne sc ta : Int32} {ma : Int64} {co ex : Nat → Int32} (x y : Int) (r : Nat) (hx : x.natAbs < 10 ^ 15) (hy : y.natAbs < 10 ^ 15) (hr : r < 10 ^ 15)
    (h : post (li, ro, ra, bI_ (decide (x < 0) != decide (y < 0)), ma, sc, bI_ (decide (r ≠ 0)), co, ex)) :
    wX_holdQuotient_126 post (sL_ x) (sL_ y) (sL_ (r : Int)) li ro ra ne ma sc ta co ex := by
  have k : ∀ b : Bool, b = (decide (x < 0) != decide (y < 0)) → wX_holdQuotient_157 post (sL_ (r : Int)) (bI_ b) li ro ra ne ma sc ta co ex := by
    intro b hb
    refine ⟨bI_n b, bI_fit b, sL_bEq (r : Int) 0 (fun z => ?_) (fun z => ?_)⟩
    · rw [← hb, decide_eq_false (show ¬ r ≠ 0 from by omega)] at h
      exact h
    · rw [← hb, decide_eq_true (show r ≠ 0 from by omega)] at h
      exact h
  refine sL_bLe 0 x (fun z => sL_bLe 0 y (fun z2 => br_t rfl (k false ?_)) (fun z2 => br_f (by decide) (k true ?_))) (fun z => sL_bLe 0 y (fun z2 => br_f (by decide) (k true ?_)) (fun z2 => br_t rfl (k false ?_)))
  · rw [decide_eq_false (by omega), decide_eq_false (by omega)]; rfl
  · rw [decide_eq_false (by omega), decide_eq_true (by omega)]; rfl
  · rw [decide_eq_true (by omega), decide_eq_false (by omega)]; rfl
  · rw [decide_eq_true (by omega), decide_eq_true (by omega)]; rfl
theorem xq_52 (post : SX → Prop) (li : Int64) (ro ra ne ta : Int32) (co ex : Nat → Int32) (x y : Int64) (A B : Nat) (e : Int) (hA : A < 10 ^ 7) (hB : 0 < B ∧ B < 10 ^ 7)
    (h : ∀ i : Nat, i ≤ 14 → (A * 10 ^ i % B ≠ 0 → 10 ^ 7 ≤ A * 10 ^ i / B) → (A * 10 ^ i % B = 0 → i = 0 ∨ A * 10 ^ i / B % 10 ≠ 0) → A * 10 ^ i / B < 10 ^ 9 →
      wX_holdQuotient_126 post x y (sL_ ((A * 10 ^ i % B : Nat) : Int)) li ro ra ne (sL_ ((A * 10 ^ i / B : Nat) : Int)) (sI_ (e - i)) ta co ex) :
    ∀ d i : Nat, i + d = 14 → (A * 10 ^ i % B = 0 → i = 0 ∨ A * 10 ^ i / B % 10 ≠ 0) → A * 10 ^ i / B < 10 ^ 9 →
      wX_holdQuotient_52 post x y (sL_ (B : Int)) li ro ra ne ta co ex (d + 1) (sL_ ((A * 10 ^ i % B : Nat) : Int)) (sI_ (i : Int)) (sL_ ((A * 10 ^ i / B : Nat) : Int)) (sI_ (e - i)) := by
  intro d
  induction d with
  | zero =>
    intro i hi h1 h2
    refine sI_bLe 14 (i : Int) (fun _ => h i (by omega) ?_ h1 h2) (fun hh => by omega)
    intro z
    have e14 : i = 14 := by omega
    subst e14
    have a1 : 1 ≤ A := by
      by_cases c : A = 0
      · subst c; rw [Nat.zero_mul, Nat.zero_mod] at z; exact absurd rfl z
      · omega
    rw [Nat.le_div_iff_mul_le hB.1]
    omega
  | succ d ih =>
    intro i hi h1 h2
    have st := xq_st (A := A) (i := i) hB.1
    have hr : A * 10 ^ i % B < B := Nat.mod_lt _ hB.1
    have hi1 := ih (i + 1) (by omega)
    have hh := h i (by omega)
    rw [st.1, st.2] at hi1
    clear st ih h
    have n1 := Int.natCast_nonneg (A * 10 ^ i % B)
    have n2 := Int.natCast_nonneg (A * 10 ^ i / B)
    generalize A * 10 ^ i / B = g at *
    generalize A * 10 ^ i % B = r at *
    have hB0 : ¬ sL_ (B : Int) = 0 := sL_n0 (by omega) (by omega)
    refine sI_bLe 14 (i : Int) (fun hh => by omega) (fun _ => sL_bEq (r : Int) 0 (fun z => hh (fun c => by omega) h1 h2) (fun z => sL_bLe 10000000 (g : Int) (fun z2 => hh (fun _ => by omega) h1 h2) (fun z2 => ?_)))
    have q1 : r * 10 / B < 10 := by
      rw [Nat.div_lt_iff_lt_mul hB.1]; omega
    have e1 : sL_ ((r : Int) * 10) / sL_ (B : Int) = sL_ ((r * 10 / B : Nat) : Int) := by
      rw [sL_div (by omega) (by omega), show (r : Int) * 10 = ((r * 10 : Nat) : Int) from by omega, Int.natCast_tdiv_eq_ediv]
      congr 1
    have e2 : sL_ ((r : Int) * 10) - sL_ ((r : Int) * 10) / sL_ (B : Int) * sL_ (B : Int) = sL_ ((r * 10 % B : Nat) : Int) := by
      rw [sL_rem (by omega) (by omega), show (r : Int) * 10 = ((r * 10 : Nat) : Int) from by omega, Int.tmod_eq_emod_of_nonneg (by omega)]
      congr 1
    refine nm_r (sL_mul (r : Int) 10) ⟨hB0, nm_r (e' := sL_ ((g * 10 + r * 10 / B : Nat) : Int)) ?_ ⟨hB0, nm_r e2 (nm_r (e' := sI_ (e - (i + 1 : Nat))) ?_ (nm_r (sI_add i 1) (hi1 ?_ ?_)))⟩⟩
    · rw [e1, show (10 : Int64) = sL_ 10 from rfl, sL_mul, sL_add]
      congr 1
    · rw [show (1 : Int32) = sI_ 1 from rfl, sI_sub]
      congr 1
      omega
    · intro z3
      right
      have := Nat.div_add_mod (r * 10) B
      rw [z3] at this
      have : r * 10 / B ≠ 0 := by
        intro z4
        rw [z4] at this
        omega
      clear e1 e2 hi1
      generalize r * 10 / B = q at *
      omega
    · clear e1 e2 hi1
      generalize r * 10 / B = q at *
      omega
theorem xq_quot {post : SX → Prop} {li ma : Int64} {ro ra ne sc ta : Int32} {co ex : Nat → Int32} (x y e : Int) (hx : x.natAbs < 10 ^ 7) (hy : y.natAbs < 10 ^ 7) (hy0 : y ≠ 0)
    (h : ∀ i : Nat, i ≤ 14 → (x.natAbs * 10 ^ i % y.natAbs ≠ 0 → 10 ^ 7 ≤ x.natAbs * 10 ^ i / y.natAbs) → (x.natAbs * 10 ^ i % y.natAbs = 0 → i = 0 ∨ x.natAbs * 10 ^ i / y.natAbs % 10 ≠ 0) → x.natAbs * 10 ^ i / y.natAbs < 10 ^ 9 →
      post (li, ro, ra, bI_ (decide (x < 0) != decide (y < 0)), sL_ ((x.natAbs * 10 ^ i / y.natAbs : Nat) : Int), sI_ (e - i), bI_ (decide (x.natAbs * 10 ^ i % y.natAbs ≠ 0)), co, ex)) :
    wpX_holdQuotient post (li, ro, ra, ne, ma, sc, ta, co, ex) (sL_ x) (sL_ y) (sI_ e) := by
  have key : ∀ z : Int, z = (y.natAbs : Int) → wX_holdQuotient_12 post (sL_ x) (sL_ y) (sI_ e) (sL_ z) li ro ra ne ma sc ta co ex := by
    intro z hz
    subst hz
    unfold wX_holdQuotient_12
    have hn : ¬ sL_ (y.natAbs : Int) = 0 := sL_n0 (by omega) (by omega)
    have k := xq_52 post li ro ra (bI_ (decide (x < 0))) (bI_ false) co ex (sL_ x) (sL_ y) x.natAbs y.natAbs e hx (by omega) (fun i hi h1 h2 h3 => xq_126 x y _ (by omega) (by omega) (by have := Nat.mod_lt (x.natAbs * 10 ^ i) (show 0 < y.natAbs from by omega); omega) (h i hi h1 h2 h3)) 14 0 (by omega) (fun _ => Or.inl rfl) (by
      rw [Nat.pow_zero, Nat.mul_one]
      have := Nat.div_le_self x.natAbs y.natAbs
      omega)
    rw [Nat.pow_zero, Nat.mul_one, show e - ((0 : Nat) : Int) = e from by omega] at k
    refine xa_hold x (by omega) (br_f hn ⟨hn, nm_r (e' := sL_ ((x.natAbs % y.natAbs : Nat) : Int)) ?_ ⟨hn, nm_r (e' := sL_ ((x.natAbs / y.natAbs : Nat) : Int)) ?_ ⟨15, k⟩⟩⟩)
    · rw [sL_rem (by omega) (by omega), Int.tmod_eq_emod_of_nonneg (by omega)]
      congr 1
    · rw [sL_div (by omega) (by omega), Int.natCast_tdiv_eq_ediv]
      congr 1
  refine sL_bLe 0 y (fun z => key y (by omega)) (fun z => ?_)
  rw [sL_neg]
  exact key (-y) (by omega)
/-- Y: divide -/
theorem yq_141 (post : Int32 → SY → Prop) (x1 x2 x3 x4 pr mo fl lo ne mr : Int32) (co ex : Nat → Int32) (A B : Nat) (hB : 0 < B ∧ B < 10 ^ 7)
    (h : ∀ di : Nat → Int32, dv_ di 128 = ((A * 10 ^ 40 / B : Nat) : Int) → (∀ i, i < 128 → -50 ≤ (di i).toInt ∧ (di i).toInt ≤ 50) → wY_divide_215 post x1 x2 x3 x4 (bI_ (decide (A * 10 ^ 40 % B ≠ 0))) pr mo fl lo ne mr co ex di) :
    ∀ (d j : Nat) (di : Nat → Int32), j + d = 40 → (∀ i, i < d → di i = 0) → dv_ di 128 = ((A * 10 ^ j / B * 10 ^ d : Nat) : Int) → (∀ i, i < 128 → -50 ≤ (di i).toInt ∧ (di i).toInt ≤ 50) →
      wY_divide_141 post x1 x2 x3 x4 (sL_ (B : Int)) pr mo fl lo ne mr (d + 1) (sL_ ((A * 10 ^ j % B : Nat) : Int)) (sI_ ((d : Int) - 1)) co ex di := by
  intro d
  induction d with
  | zero =>
    intro j di hj h1 h2 h3
    have e40 : j = 40 := by omega
    subst e40
    rw [Nat.pow_zero, Nat.mul_one] at h2
    have k := h di h2 h3
    have hr : A * 10 ^ 40 % B < B := Nat.mod_lt _ hB.1
    generalize A * 10 ^ 40 % B = r at *
    refine sI_bLt (((0 : Nat) : Int) - 1) 0 (fun _ => sL_bEq (r : Int) 0 (fun z => ?_) (fun z => ?_)) (fun hh => by omega)
    · rw [decide_eq_false (show ¬ r ≠ 0 from by omega)] at k
      exact k
    · rw [decide_eq_true (show r ≠ 0 from by omega)] at k
      exact k
  | succ d ih =>
    intro j di hj h1 h2 h3
    have st := xq_st (A := A) (i := j) hB.1
    have hr : A * 10 ^ j % B < B := Nat.mod_lt _ hB.1
    have hi1 := fun di' => ih (j + 1) di' (by omega)
    rw [st.1, st.2] at hi1
    clear st ih h
    generalize A * 10 ^ j / B = g at *
    generalize A * 10 ^ j % B = r at *
    have hB0 : ¬ sL_ (B : Int) = 0 := sL_n0 (by omega) (by omega)
    have q1 : r * 10 / B < 10 := by
      rw [Nat.div_lt_iff_lt_mul hB.1]; omega
    have e1 : sL_ ((r : Int) * 10) / sL_ (B : Int) = sL_ ((r * 10 / B : Nat) : Int) := by
      rw [sL_div (by omega) (by omega), show (r : Int) * 10 = ((r * 10 : Nat) : Int) from by omega, Int.natCast_tdiv_eq_ediv]
      congr 1
    have e2 : sL_ ((r : Int) * 10) - sL_ ((r : Int) * 10) / sL_ (B : Int) * sL_ (B : Int) = sL_ ((r * 10 % B : Nat) : Int) := by
      rw [sL_rem (by omega) (by omega), show (r : Int) * 10 = ((r * 10 : Nat) : Int) from by omega, Int.tmod_eq_emod_of_nonneg (by omega)]
      congr 1
    have ed : sI_ (((d + 1 : Nat) : Int) - 1) = sI_ (d : Int) := by rw [show ((d + 1 : Nat) : Int) - 1 = (d : Int) from by omega]
    rw [ed]
    refine sI_bLt (d : Int) 0 (fun hh => by omega) (fun _ => nm_r (sL_mul (r : Int) 10) (sL_bLe (B : Int) 0 (fun hh => by omega) (fun _ => ⟨hB0, ?_⟩)))
    rw [e1]
    refine ⟨sI_in (by omega) (by omega), nm_e (sL_bLe (B : Int) 0 (fun hh => by omega) (fun _ => ⟨hB0, nm_r e2 (nm_r (sI_m1 (d : Int)) ?_)⟩))⟩
    rw [sI_cl (by omega), sL_i]
    have n1 := Int.natCast_nonneg (r * 10 / B)
    have hx : (sI_ ((r * 10 / B : Nat) : Int)).toInt = ((r * 10 / B : Nat) : Int) := sI_t (by omega) (by omega)
    refine hi1 _ ?_ ?_ ?_
    · intro i hi
      rw [dv_un _ _ (by omega)]; exact h1 i (by omega)
    · rw [dv_ult _ _ (by omega), hx, h2, h1 d (by omega), Int32.toInt_zero]
      rw [Nat.pow_succ]
      generalize r * 10 / B = q at *
      rw [← tc_ d]
      generalize 10 ^ d = T
      simp only [Int.natCast_mul, Int.natCast_add]
      grind
    · intro i hi
      by_cases c : i = d
      · subst c; rw [dv_us, hx]; omega
      · rw [dv_un _ _ c]; exact h3 i hi
end
section
/-- the registers are in range -/
def RG_ (P : Nat) (co ex : Nat → Int32) : Prop := (∀ j, j < 6 → (co j).toInt.natAbs < 10 ^ P) ∧ (∀ j, j < 6 → -20 ≤ (ex j).toInt ∧ (ex j).toInt ≤ 20)
def i_Rel (k : Nat) (u : SX) (v : SY) : Prop :=
  ∃ (P mode : Nat) (fl : Int32) (co ex : Nat → Int32) (ne : Int32) (ma : Int64) (sc ta lo ne' mr : Int32) (di : Nat → Int32),
    u = (sL_ ((10 ^ P : Nat) : Int), sI_ (mode : Int), fl, ne, ma, sc, ta, co, ex) ∧ v = (sI_ (P : Int), sI_ (mode : Int), fl, lo, ne', mr, co, ex, di) ∧ (3 ≤ P ∧ P ≤ 7) ∧ mode ≤ 6 ∧ RG_ P co ex
theorem i_up {k : Nat} {u : SX} {v : SY} (h : i_Rel k u v) : i_Rel (k + 5) u v := h
theorem rl_0 (P : Nat) : RG_ P (fun _ => 0) (fun _ => 0) :=
  ⟨fun j _ => by show (0 : Int32).toInt.natAbs < _; rw [Int32.toInt_zero]; exact tn_ P, fun j _ => by show -20 ≤ (0 : Int32).toInt ∧ (0 : Int32).toInt ≤ 20; rw [Int32.toInt_zero]; omega⟩
theorem rl_init (P : Nat) (h : 3 ≤ P ∧ P ≤ 7) {k : Nat} : i_Rel k (sL_ ((10 ^ P : Nat) : Int), 0, 0, 0, 0, 0, 0, (fun _ => 0), (fun _ => 0)) (sI_ (P : Int), 0, 0, 0, 0, 0, (fun _ => 0), (fun _ => 0), (fun _ => 0)) :=
  ⟨P, 0, 0, _, _, _, _, _, _, _, _, _, _, rfl, rfl, h, by omega, rl_0 P⟩
theorem i_vc0 (k0 : Int32) : wpX_init (fun u => wpY_init (fun v => i_Rel 1 u v) k0) k0 := by
  have b1 := Int32.toInt_lt k0
  have b2 := Int32.le_toInt k0
  have e0 := sI_self k0
  generalize k0.toInt = z at *
  subst e0
  refine sI_bLe 3 z (fun h1 => sI_bLe z 7 (fun h2 => ?_) (fun h2 => ?_)) (fun h1 => ?_)
  · obtain ⟨P, hP⟩ := Int.eq_ofNat_of_zero_le (show 0 ≤ z from by omega)
    subst hP
    refine xa_pow P P (by omega) (Or.inl ⟨rfl, by omega⟩) ?_
    exact sI_bLe 3 (P : Int) (fun _ => sI_bLe (P : Int) 7 (fun _ => rl_init P (by omega)) (fun hh => by omega)) (fun hh => by omega)
  · refine xa_pow 7 7 (by omega) (Or.inl ⟨rfl, by omega⟩) ?_
    exact sI_bLe 3 z (fun _ => sI_bLe z 7 (fun hh => by omega) (fun _ => rl_init 7 (by omega))) (fun hh => by omega)
  · refine xa_pow 3 3 (by omega) (Or.inl ⟨rfl, by omega⟩) ?_
    exact sI_bLe 3 z (fun hh => by omega) (fun _ => rl_init 3 (by omega))
theorem i_vc_mode {k : Nat} {u : SX} {v : SY} (I : i_Rel k u v) (hk : k + 5 ≤ 2561) (v1 : Int32) : wpX_mode (fun r u' => wpY_mode (fun r' v' => r' = r ∧ i_Rel (k + 5) u' v') v v1) u v1 := by
  obtain ⟨P, mode, fl, co, ex, ne, ma, sc, ta, lo, ne', mr, di, rfl, rfl, hP, hm, hR⟩ := I
  have b1 := Int32.toInt_lt v1
  have b2 := Int32.le_toInt v1
  have e0 := sI_self v1
  generalize v1.toInt = z at *
  subst e0
  have same : i_Rel (k + 5) (sL_ ((10 ^ P : Nat) : Int), sI_ (mode : Int), fl, ne, ma, sc, ta, co, ex) (sI_ (P : Int), sI_ (mode : Int), fl, lo, ne', mr, co, ex, di) := ⟨P, mode, fl, co, ex, ne, ma, sc, ta, lo, ne', mr, di, rfl, rfl, hP, hm, hR⟩
  refine sI_bLt z 0 (fun h1 => ?_) (fun h1 => sI_bLe z 6 (fun h2 => ?_) (fun h2 => ?_))
  · exact sI_bLt z 0 (fun _ => ⟨rfl, same⟩) (fun hh => by omega)
  · obtain ⟨m, hm'⟩ := Int.eq_ofNat_of_zero_le h1
    subst hm'
    exact sI_bLt (m : Int) 0 (fun hh => by omega) (fun _ => sI_bLe (m : Int) 6 (fun _ => ⟨rfl, ⟨P, m, fl, co, ex, ne, ma, sc, ta, lo, ne', mr, di, rfl, rfl, hP, by omega, hR⟩⟩) (fun hh => by omega))
  · exact sI_bLt z 0 (fun hh => by omega) (fun _ => sI_bLe z 6 (fun hh => by omega) (fun _ => ⟨rfl, same⟩))
/-- registers and exponents -/
def rb_ (x : Int32) : Bool := decide (0 ≤ x.toInt ∧ x.toInt ≤ 5)
def eb_ (x : Int32) : Bool := decide (-20 ≤ x.toInt ∧ x.toInt ≤ 20)
theorem rb_of {x : Int32} (h : rb_ x = true) : ∃ j : Nat, j < 6 ∧ x = sI_ (j : Int) := by
  have := of_decide_eq_true h
  refine ⟨x.toInt.toNat, by omega, ?_⟩
  rw [show ((x.toInt.toNat : Nat) : Int) = x.toInt from by omega, sI_self]
theorem rb_i {j : Nat} (h : j < 6) : rb_ (sI_ (j : Int)) = true := by
  unfold rb_
  rw [sI_t (by omega) (by omega)]
  exact decide_eq_true (by omega)
theorem eb_of {x : Int32} (h : eb_ x = true) : ∃ e : Int, (-20 ≤ e ∧ e ≤ 20) ∧ x = sI_ e :=
  ⟨x.toInt, of_decide_eq_true h, (sI_self x).symm⟩
theorem eb_i {e : Int} (h : -20 ≤ e ∧ e ≤ 20) : eb_ (sI_ e) = true := by
  unfold eb_
  rw [sI_t (by omega) (by omega)]
  exact decide_eq_true h
theorem rr_X {post : Int32 → Prop} {x : Int32} (h : post (bI_ (rb_ x))) : wpX_isRegister post x := by
  have b1 := Int32.toInt_lt x
  have b2 := Int32.le_toInt x
  unfold rb_ at h
  have e0 := sI_self x
  generalize x.toInt = z at *
  subst e0
  refine sI_bLt z 0 (fun h1 => ?_) (fun h1 => sI_bLe 6 z (fun h2 => ?_) (fun h2 => ?_))
  · rw [decide_eq_false (by omega)] at h; exact h
  · rw [decide_eq_false (by omega)] at h; exact h
  · rw [decide_eq_true (by omega)] at h; exact h
theorem rr_Y {post : Int32 → Prop} {x pr mo fl lo ne mr : Int32} {co ex di : Nat → Int32} (h : post (bI_ (rb_ x))) : wpY_isRegister post (pr, mo, fl, lo, ne, mr, co, ex, di) x := by
  have b1 := Int32.toInt_lt x
  have b2 := Int32.le_toInt x
  unfold rb_ at h
  have e0 := sI_self x
  generalize x.toInt = z at *
  subst e0
  refine sI_bLt z 0 (fun h1 => ?_) (fun h1 => sI_bLt 5 z (fun h2 => ?_) (fun h2 => ?_))
  · rw [decide_eq_false (by omega)] at h; exact h
  · rw [decide_eq_false (by omega)] at h; exact h
  · rw [decide_eq_true (by omega)] at h; exact h
theorem re_X {post : Int32 → Prop} {x : Int32} (h : post (bI_ (eb_ x))) : wpX_isExponent post x := by
  have b1 := Int32.toInt_lt x
  have b2 := Int32.le_toInt x
  unfold eb_ at h
  have e0 := sI_self x
  generalize x.toInt = z at *
  subst e0
  refine sI_bLt z (-20) (fun h1 => ?_) (fun h1 => sI_bLt 20 z (fun h2 => ?_) (fun h2 => ?_))
  · rw [decide_eq_false (by omega)] at h; exact h
  · rw [decide_eq_false (by omega)] at h; exact h
  · rw [decide_eq_true (by omega)] at h; exact h
/-- the first checks of a call, by the same test -/
theorem rX_1 {post : Int32 → Prop} {j : Nat} (h : j < 6) (p : post 1) : wpX_isRegister post (sI_ (j : Int)) := rr_X (by rw [rb_i h]; exact p)
theorem rY_1 {post : Int32 → Prop} {j : Nat} {pr mo fl lo ne mr : Int32} {co ex di : Nat → Int32} (h : j < 6) (p : post 1) : wpY_isRegister post (pr, mo, fl, lo, ne, mr, co, ex, di) (sI_ (j : Int)) := rr_Y (by rw [rb_i h]; exact p)
theorem rX_e {post : Int32 → Prop} {e : Int} (h : -20 ≤ e ∧ e ≤ 20) (p : post 1) : wpX_isExponent post (sI_ e) := re_X (by rw [eb_i h]; exact p)
theorem n1_0 : ¬ (1 : Int32) = 0 := by decide
theorem RG_set {P : Nat} {co ex : Nat → Int32} (h : RG_ P co ex) {d : Nat} {c e : Int} (hc : c.natAbs < 10 ^ P) (hP : P ≤ 7) (he : -20 ≤ e ∧ e ≤ 20) : RG_ P (upd co d (sI_ c)) (upd ex d (sI_ e)) := by
  have hp : 10 ^ P ≤ 10 ^ 7 := dd_le hP
  refine ⟨fun j hj => ?_, fun j hj => ?_⟩
  · by_cases q : j = d
    · subst q; rw [dv_us, sI_t (by omega) (by omega)]; exact hc
    · rw [dv_un _ _ q]; exact h.1 j hj
  · by_cases q : j = d
    · subst q; rw [dv_us, sI_t (by omega) (by omega)]; exact he
    · rw [dv_un _ _ q]; exact h.2 j hj
theorem i_vc_coefficient {k : Nat} {u : SX} {v : SY} (I : i_Rel k u v) (hk : k + 5 ≤ 2561) (v1 : Int32) : wpX_coefficient (fun r => wpY_coefficient (fun r' => r' = r ∧ i_Rel (k + 5) u v) v v1) u v1 := by
  have I' := i_up I
  obtain ⟨P, mode, fl, co, ex, ne, ma, sc, ta, lo, ne', mr, di, rfl, rfl, hP, hm, hR⟩ := I
  unfold wpX_coefficient wpY_coefficient
  dsimp only
  refine rr_X (bI_br _ (fun h => ?_) (fun h => ?_))
  · exact rr_Y (by rw [h]; exact br_t rfl ⟨rfl, I'⟩)
  · obtain ⟨j, hj, rfl⟩ := rb_of h
    exact ⟨sI_in hj (by omega), rY_1 hj (br_f n1_0 ⟨sI_in hj (by omega), rfl, I'⟩)⟩
theorem i_vc_exponent {k : Nat} {u : SX} {v : SY} (I : i_Rel k u v) (hk : k + 5 ≤ 2561) (v1 : Int32) : wpX_exponent (fun r => wpY_exponent (fun r' => r' = r ∧ i_Rel (k + 5) u v) v v1) u v1 := by
  have I' := i_up I
  obtain ⟨P, mode, fl, co, ex, ne, ma, sc, ta, lo, ne', mr, di, rfl, rfl, hP, hm, hR⟩ := I
  unfold wpX_exponent wpY_exponent
  dsimp only
  refine rr_X (bI_br _ (fun h => ?_) (fun h => ?_))
  · exact rr_Y (by rw [h]; exact br_t rfl ⟨rfl, I'⟩)
  · obtain ⟨j, hj, rfl⟩ := rb_of h
    exact ⟨sI_in hj (by omega), rY_1 hj (br_f n1_0 ⟨sI_in hj (by omega), rfl, I'⟩)⟩
theorem sY_ok {post : Int32 → SY → Prop} {r c e mo fl lo ne mr : Int32} {co ex di : Nat → Int32} {P j : Nat} {z p : Int} (hr : r = sI_ (j : Int)) (hj : j < 6) (he : e = sI_ p) (hp : -20 ≤ p ∧ p ≤ 20) (hc : c = sI_ z) (hz : -2147483648 ≤ z ∧ z < 2147483648) (hP : 3 ≤ P ∧ P ≤ 7)
    (h1 : z.natAbs < 10 ^ P → post 1 (sI_ (P : Int), mo, fl, lo, ne, mr, upd co j (sI_ z), upd ex j (sI_ p), di)) (h0 : ¬ z.natAbs < 10 ^ P → post 0 (sI_ (P : Int), mo, fl, lo, ne, mr, co, ex, di)) :
    wpY_set post (sI_ (P : Int), mo, fl, lo, ne, mr, co, ex, di) r c e := by
  subst hr he hc
  unfold wpY_set
  dsimp only
  refine rY_1 hj (br_f n1_0 (sI_bLt p (-20) (fun hh => by omega) (fun _ => sI_bLt 20 p (fun hh => by omega) (fun _ => yk_dig z P (sI_l (by omega) (by omega)) (by omega) (by omega) (fun x hx => yk_if hx (fun q => ⟨sI_in hj (by omega), nm_e ⟨sI_in hj (by omega), nm_e (by rw [sI_cl (by omega)]; exact h1 q)⟩⟩) (fun q => h0 q))))))
theorem i_vc_set {k : Nat} {u : SX} {v : SY} (I : i_Rel k u v) (hk : k + 5 ≤ 2561) (v1 : Int32) (v2 : Int32) (v3 : Int32) : wpX_set (fun r u' => wpY_set (fun r' v' => r' = r ∧ i_Rel (k + 5) u' v') v v1 v2 v3) u v1 v2 v3 := by
  have I' := i_up I
  obtain ⟨P, mode, fl, co, ex, ne, ma, sc, ta, lo, ne', mr, di, rfl, rfl, hP, hm, hR⟩ := I
  have hp := yf_p hP
  have b1 := Int32.toInt_lt v2
  have b2 := Int32.le_toInt v2
  have e0 := sI_self v2
  generalize v2.toInt = z at *
  subst e0
  unfold wpX_set
  dsimp only
  refine rr_X (bI_br _ (fun h => ?_) (fun h => re_X (bI_br _ (fun h2 => ?_) (fun h2 => ?_))))
  · unfold wpY_set
    dsimp only
    exact rr_Y (by rw [h]; exact br_t rfl ⟨rfl, I'⟩)
  · obtain ⟨j, hj, rfl⟩ := rb_of h
    unfold wpY_set
    dsimp only
    have g1 := Int32.toInt_lt v3
    have g2 := Int32.le_toInt v3
    have g3 := of_decide_eq_false h2
    have g0 := sI_self v3
    generalize v3.toInt = p at *
    subst g0
    exact rY_1 hj (br_f n1_0 (sI_bLt p (-20) (fun _ => ⟨rfl, I'⟩) (fun _ => sI_bLt 20 p (fun _ => ⟨rfl, I'⟩) (fun _ => by omega))))
  · obtain ⟨j, hj, rfl⟩ := rb_of h
    obtain ⟨p, hp2, rfl⟩ := eb_of h2
    have ez : (sI_ z).toInt64 = sL_ z := sI_l (by omega) (by omega)
    have bad : ¬ z.natAbs < 10 ^ P → wpY_set (fun r' v' => r' = 0 ∧ i_Rel (k + 5) (sL_ ((10 ^ P : Nat) : Int), sI_ (mode : Int), fl, ne, ma, sc, ta, co, ex) v') (sI_ (P : Int), sI_ (mode : Int), fl, lo, ne', mr, co, ex, di) (sI_ (j : Int)) (sI_ z) (sI_ p) :=
      fun q => sY_ok rfl hj rfl hp2 rfl (by omega) hP (fun q2 => absurd q2 q) (fun _ => ⟨rfl, I'⟩)
    refine sL_bLe ((10 ^ P : Nat) : Int) z (fun q => bad (by omega)) (fun q => sL_bLt (-((10 ^ P : Nat) : Int)) z (fun q2 => ⟨sI_in hj (by omega), nm_e ⟨sI_in hj (by omega), nm_e ?_⟩⟩) (fun q2 => bad (by omega)) (sL_neg _) ez) rfl ez
    rw [sI_cl (by omega)]
    refine sY_ok rfl hj rfl hp2 rfl (by omega) hP (fun q3 => ⟨rfl, ?_⟩) (fun q3 => by omega)
    exact ⟨P, mode, fl, _, _, ne, ma, sc, ta, lo, ne', mr, di, rfl, rfl, hP, hm, RG_set hR (by omega) (by omega) hp2⟩
end
section
/-- both sides finish: the same answer, related states again -/
theorem bf_rel {P mode k : Nat} {neg : Bool} {c d : Nat} {e : Int} {f fl : Int32} {co ex : Nat → Int32} (hP : 3 ≤ P ∧ P ≤ 7) (hm : mode ≤ 6) (hR : RG_ P co ex) (hc : c < 10 ^ P)
    (ne : Int32) (ma : Int64) (sc ta lo ne' mr : Int32) (di : Nat → Int32) :
    i_Rel k (sL_ ((10 ^ P : Nat) : Int), sI_ (mode : Int), (rs_ neg c e f fl co ex d).2.1, ne, ma, sc, ta, (rs_ neg c e f fl co ex d).2.2.1, (rs_ neg c e f fl co ex d).2.2.2)
      (sI_ (P : Int), sI_ (mode : Int), (rs_ neg c e f fl co ex d).2.1, lo, ne', mr, (rs_ neg c e f fl co ex d).2.2.1, (rs_ neg c e f fl co ex d).2.2.2, di) := by
  refine ⟨P, mode, _, _, _, ne, ma, sc, ta, lo, ne', mr, di, rfl, rfl, hP, hm, ?_⟩
  unfold rs_
  by_cases z : c ≠ 0 ∧ (e < -20 ∨ 20 < e)
  · rw [if_pos z]; exact hR
  · rw [if_neg z]
    refine RG_set hR ?_ hP.2 ?_
    · cases neg
      · show ((c : Int)).natAbs < _; omega
      · show (-(c : Int)).natAbs < _; omega
    · unfold cl_
      by_cases z1 : e < -20
      · rw [if_pos z1]; omega
      · rw [if_neg z1]
        by_cases z2 : 20 < e
        · rw [if_pos z2]; omega
        · rw [if_neg z2]; omega
theorem bf_K (m P : Nat) (hP : 3 ≤ P ∧ P ≤ 7) (hm : m < 9 * 10 ^ 18) : ∃ K : Nat, K ≤ 18 ∧ m / 10 ^ K < 10 ^ P ∧ (K = 0 ∨ 10 ^ P ≤ m / 10 ^ (K - 1)) := by
  have hp := yf_p hP
  have step : ∀ d : Nat, m / 10 ^ d < 10 ^ P → ∃ K : Nat, K ≤ d ∧ m / 10 ^ K < 10 ^ P ∧ (K = 0 ∨ 10 ^ P ≤ m / 10 ^ (K - 1)) := by
    intro d
    induction d with
    | zero => exact fun h => ⟨0, by omega, h, Or.inl rfl⟩
    | succ d ih =>
      intro h
      by_cases c : m / 10 ^ d < 10 ^ P
      · obtain ⟨K, h1, h2, h3⟩ := ih c
        exact ⟨K, by omega, h2, h3⟩
      · exact ⟨d + 1, by omega, h, Or.inr (by rw [Nat.add_sub_cancel]; omega)⟩
  exact step 18 (by
    have : m / 10 ^ 18 < 9 := by rw [Nat.div_lt_iff_lt_mul (tn_ 18)]; exact hm
    omega)
theorem bf_c {P mode : Nat} {neg tail : Bool} {m K : Nat} (hP : 3 ≤ P ∧ P ≤ 7) (h : m / 10 ^ K < 10 ^ P) : rc_ P (rq_ mode neg m K tail) < 10 ^ P := by
  have hr := xf_rq mode neg m K tail
  have hp := yf_p hP
  unfold rc_
  generalize rq_ mode neg m K tail = r at *
  by_cases c : 10 ^ P ≤ r
  · rw [if_pos c]; omega
  · rw [if_neg c]; omega
theorem bf_fin {post : Int32 → SX → Prop} {fl : Int32} {co ex : Nat → Int32} (WY : (Int32 → SY → Prop) → Prop) (k P mode d m j : Nat) (ng neg more tail : Bool) (lo w s V : Int)
    (hP : 3 ≤ P ∧ P ≤ 7) (hm : mode ≤ 6) (hR : RG_ P co ex) (hd : d < 6) (hlo : -200 ≤ lo ∧ lo ≤ 200) (hw : -200 ≤ w ∧ w ≤ 200) (hj : j ≤ 400)
    (hV : V.natAbs < 10 ^ 128) (hmore : more = true → 10 ^ P ≤ V.natAbs)
    (hmm : m < 9 * 10 ^ 18) (hmV : V.natAbs / 10 ^ j = m) (hm0 : m = 0 → V = 0) (hng : neg = (ng || decide (V < 0))) (ht : tail = (more || decide (V.natAbs % 10 ^ j ≠ 0))) (hs : s = lo + j)
    (htl : tail = true → 10 ^ P ≤ m) (hww : tail = false → (w ≤ s ∧ (m < 10 ^ P → s = w)) ∨ (s < w ∧ m % 10 ≠ 0))
    (hpost : ∀ r a1 a2 a3 a4 a5 a6 a7 a8 a9, WY (fun r' v' => r' = r ∧ i_Rel k (a1, a2, a3, a4, a5, a6, a7, a8, a9) v') → post r (a1, a2, a3, a4, a5, a6, a7, a8, a9))
    (hWY : ∀ q : Int32 → SY → Prop, (∀ (q' : Int32 → SY → Prop) (di : Nat → Int32), (∀ r a1 a2 a3 a4 a5 a6 a7 a8 a9, q r (a1, a2, a3, a4, a5, a6, a7, a8, a9) → q' r (a1, a2, a3, a4, a5, a6, a7, a8, a9)) →
      dv_ di 128 = V → (∀ i, i < 128 → -50 ≤ (di i).toInt ∧ (di i).toInt ≤ 50) → wpY_finish q' (sI_ (P : Int), sI_ (mode : Int), fl, sI_ lo, bI_ ng, bI_ more, co, ex, di) (sI_ (d : Int)) (sI_ w)) → WY q) :
    wpX_finish post (sL_ ((10 ^ P : Nat) : Int), sI_ (mode : Int), fl, bI_ neg, sL_ (m : Int), sI_ s, bI_ tail, co, ex) (sI_ (d : Int)) (sI_ w) := by
  have hp := yf_p hP
  by_cases z : m = 0
  · have V0 := hm0 z
    subst z V0
    refine xf_fin0 neg w d hd (by omega) (fun ne ma sc ta => hpost _ _ _ _ _ _ _ _ _ _ (hWY _ (fun q' di hq h1 h2 => ?_)))
    refine yf_finish P mode ng more lo w d 0 hP hm hd hlo hw h1 hV h2 hmore (fun c e f hf => ?_)
    rw [← hng] at hf ⊢
    have hf' : c = 0 ∧ e = w ∧ f = 0 := by
      rcases hf with hf | hf | hf
      · exact hf.2
      · obtain ⟨t, b, g1, -⟩ := hf
        have := tn_ t
        omega
      · obtain ⟨t, g1, -⟩ := hf
        have := tn_ t
        omega
    obtain ⟨rfl, rfl, rfl⟩ := hf'
    exact fun lo' ne' mr di' => hq _ _ _ _ _ _ _ _ _ _ ⟨rfl, bf_rel hP hm hR (by omega) _ _ _ _ _ _ _ _⟩
  · obtain ⟨K, k1, k2, k3⟩ := bf_K m P hP hmm
    refine xf_fin P mode neg tail m s w K d hP hm hd (by omega) (by omega) k1 hmm z k2 k3 (fun ne ma sc ta => hpost _ _ _ _ _ _ _ _ _ _ (hWY _ (fun q' di hq h1 h2 => ?_)))
    refine yf_finish P mode ng more lo w d V hP hm hd hlo hw h1 hV h2 hmore (fun c e f hf => ?_)
    rw [← hng] at hf ⊢
    obtain ⟨rfl, rfl, rfl⟩ := mm_fin hP hmV z ht hs k2 k3 htl hww hf
    exact fun lo' ne' mr di' => hq _ _ _ _ _ _ _ _ _ _ ⟨rfl, bf_rel hP hm hR (bf_c hP k2) _ _ _ _ _ _ _ _⟩
/-- sums stay within the cells -/
theorem bf_sum {x y : Int} {i j : Nat} (hx : x.natAbs < 10 ^ 15) (hy : y.natAbs < 10 ^ 15) (hi : i ≤ 100) (hj : j ≤ 100) : (x * 10 ^ i + y * 10 ^ j).natAbs < 10 ^ 128 := by
  have a : (x * 10 ^ i).natAbs ≤ 10 ^ 15 * 10 ^ 100 := by
    rw [Int.natAbs_mul, Int.natAbs_pow]
    exact Nat.mul_le_mul (by omega) (dd_le hi)
  have b : (y * 10 ^ j).natAbs ≤ 10 ^ 15 * 10 ^ 100 := by
    rw [Int.natAbs_mul, Int.natAbs_pow]
    exact Nat.mul_le_mul (by omega) (dd_le hj)
  have c := Int.natAbs_add_le (x * 10 ^ i) (y * 10 ^ j)
  omega
theorem bf_0 {di : Nat → Int32} (h : ∀ i, i < 128 → di i = 0) : ∀ i, i < 128 → -(0 : Int) ≤ (di i).toInt ∧ (di i).toInt ≤ 0 := by
  intro i hi
  rw [h i hi, Int32.toInt_zero]
  omega
theorem bf_p1 {K : SY → Prop} {pr mo fl : Int32} {co ex d1 : Nat → Int32} (x p lo : Int) (h1 : ∀ i, i < 128 → d1 i = 0) (hx : x.natAbs < 10 ^ 15) (hp : 0 ≤ p - lo ∧ p - lo ≤ 100)
    (h : ∀ d2, dv_ d2 128 = x * 10 ^ (p - lo).toNat → (∀ i, i < 128 → -9 ≤ (d2 i).toInt ∧ (d2 i).toInt ≤ 9) → (∀ i, i < (p - lo).toNat → d2 i = 0) → K (pr, mo, fl, sI_ lo, 0, 0, co, ex, d2)) :
    wpY_put K (pr, mo, fl, sI_ lo, 0, 0, co, ex, d1) (sL_ x) (sI_ p) := by
  refine ya_put 0 15 x (p - lo).toNat (fun d2 h2 h3 h4 => h d2 ?_ ?_ ?_) rfl (by rw [sI_sub]; congr 1; omega) (by omega) (by omega) (by omega) (by omega) (bf_0 h1)
  · rw [h3, dv_0 h1, Int.zero_add]
  · intro i hi
    have := h2 i hi
    omega
  · intro i hi
    rw [h4 i hi]
    exact h1 i (by omega)
theorem bf_p2 {K : SY → Prop} {pr mo fl : Int32} {co ex d2 : Nat → Int32} (A y q lo : Int) (h1 : dv_ d2 128 = A) (h2 : ∀ i, i < 128 → -9 ≤ (d2 i).toInt ∧ (d2 i).toInt ≤ 9) (hy : y.natAbs < 10 ^ 15) (hq : 0 ≤ q - lo ∧ q - lo ≤ 100)
    (h : ∀ d3, dv_ d3 128 = A + y * 10 ^ (q - lo).toNat → (∀ i, i < 128 → -50 ≤ (d3 i).toInt ∧ (d3 i).toInt ≤ 50) → K (pr, mo, fl, sI_ lo, 0, 0, co, ex, d3)) :
    wpY_put K (pr, mo, fl, sI_ lo, 0, 0, co, ex, d2) (sL_ y) (sI_ q) := by
  refine ya_put 9 15 y (q - lo).toNat (fun d3 h4 h5 _ => h d3 ?_ ?_) rfl (by rw [sI_sub]; congr 1; omega) (by omega) (by omega) (by omega) (by omega) h2
  · rw [h5, h1]
  · intro i hi
    have := h4 i hi
    omega
/-- X: a sum, finished -/
theorem bf_hs {K : SX → Prop} {post : Int32 → SX → Prop} {fl ne sc ta : Int32} {ma : Int64} {co ex : Nat → Int32} (WY : (Int32 → SY → Prop) → Prop) (k P mode d : Nat) (x y p q lo T : Int)
    (hP : 3 ≤ P ∧ P ≤ 7) (hm : mode ≤ 6) (hR : RG_ P co ex) (hd : d < 6) (hx : x.natAbs < 10 ^ 15) (hy : y.natAbs < 10 ^ 15) (hp : -50 ≤ p ∧ p ≤ 50) (hq : -50 ≤ q ∧ q ≤ 50)
    (hlo : (p < q ∧ lo = p) ∨ (q ≤ p ∧ lo = q)) (hT : x * 10 ^ (p - lo).toNat + y * 10 ^ (q - lo).toNat = T)
    (hK : ∀ a1 a2 a3 a4 a5 a6 a7 a8 a9, wpX_finish post (a1, a2, a3, a4, a5, a6, a7, a8, a9) (sI_ (d : Int)) (sI_ lo) → K (a1, a2, a3, a4, a5, a6, a7, a8, a9))
    (hpost : ∀ r a1 a2 a3 a4 a5 a6 a7 a8 a9, WY (fun r' v' => r' = r ∧ i_Rel k (a1, a2, a3, a4, a5, a6, a7, a8, a9) v') → post r (a1, a2, a3, a4, a5, a6, a7, a8, a9))
    (hWY : ∀ q : Int32 → SY → Prop, (∀ (q' : Int32 → SY → Prop) (di : Nat → Int32), (∀ r a1 a2 a3 a4 a5 a6 a7 a8 a9, q r (a1, a2, a3, a4, a5, a6, a7, a8, a9) → q' r (a1, a2, a3, a4, a5, a6, a7, a8, a9)) →
      dv_ di 128 = T → (∀ i, i < 128 → -50 ≤ (di i).toInt ∧ (di i).toInt ≤ 50) → wpY_finish q' (sI_ (P : Int), sI_ (mode : Int), fl, sI_ lo, bI_ false, bI_ false, co, ex, di) (sI_ (d : Int)) (sI_ lo)) → WY q) :
    wpX_holdSum K (sL_ ((10 ^ P : Nat) : Int), sI_ (mode : Int), fl, ne, ma, sc, ta, co, ex) (sL_ x) (sI_ p) (sL_ y) (sI_ q) := by
  have hpp := yf_p hP
  refine xs_sum x y p q lo T hx hy (by omega) (by omega) hlo hT (fun f hf h1 h2 => hK _ _ _ _ _ _ _ _ _ ?_)
  refine bf_fin WY k P mode d (T.natAbs / 10 ^ f) f false (decide (T < 0)) false (decide (T.natAbs % 10 ^ f ≠ 0)) lo lo (lo + f) T hP hm hR hd (by omega) (by omega) hf ?_ (fun c => absurd c (by decide)) h2 rfl ?_ rfl rfl rfl ?_ ?_ hpost hWY
  · rw [← hT]; exact bf_sum hx hy (by omega) (by omega)
  · intro z
    rcases h1 with c | c
    · subst c
      rw [Nat.pow_zero, Nat.div_one] at z
      omega
    · omega
  · intro z
    rcases h1 with c | c
    · subst c
      rw [Nat.pow_zero, Nat.mod_one] at z
      exact absurd z (by decide)
    · omega
  · intro _
    left
    refine ⟨by omega, fun z => ?_⟩
    rcases h1 with c | c
    · omega
    · omega
theorem rg_c {P : Nat} {co ex : Nat → Int32} (hR : RG_ P co ex) (hP : 3 ≤ P ∧ P ≤ 7) {j : Nat} (hj : j < 6) : ∃ x : Int, co j = sI_ x ∧ x.natAbs < 10 ^ P ∧ x.natAbs < 10 ^ 7 := by
  have hp := yf_p hP
  have := hR.1 j hj
  exact ⟨(co j).toInt, (sI_self _).symm, this, by omega⟩
theorem rg_e {P : Nat} {co ex : Nat → Int32} (hR : RG_ P co ex) {j : Nat} (hj : j < 6) : ∃ p : Int, ex j = sI_ p ∧ (-20 ≤ p ∧ p ≤ 20) :=
  ⟨(ex j).toInt, (sI_self _).symm, hR.2 j hj⟩
end
section
/-- apply -/
theorem ap_mulB {x y : Int} (hx : x.natAbs < 10 ^ 7) (hy : y.natAbs < 10 ^ 7) : (x * y).natAbs < 10 ^ 15 := by
  rw [Int.natAbs_mul]
  have := Nat.mul_le_mul (Nat.le_of_lt hx) (Nat.le_of_lt hy)
  omega
theorem ap_Ymul {pr mo fl lo ne mr : Int32} {co ex di : Nat → Int32} {d a b : Nat} (hd : d < 6) (ha : a < 6) (hb : b < 6) {x y p q : Int} (cx : co a = sI_ x) (cy : co b = sI_ y) (ep : ex a = sI_ p) (eq : ex b = sI_ q) (hx : x.natAbs < 10 ^ 7) (hy : y.natAbs < 10 ^ 7)
    (Q : Int32 → SY → Prop) (h : ∀ (q' : Int32 → SY → Prop) (di : Nat → Int32), (∀ r a1 a2 a3 a4 a5 a6 a7 a8 a9, Q r (a1, a2, a3, a4, a5, a6, a7, a8, a9) → q' r (a1, a2, a3, a4, a5, a6, a7, a8, a9)) →
      dv_ di 128 = x * y → (∀ i, i < 128 → -50 ≤ (di i).toInt ∧ (di i).toInt ≤ 50) → wpY_finish q' (pr, mo, fl, sI_ (p + q), bI_ false, bI_ false, co, ex, di) (sI_ (d : Int)) (sI_ (p + q))) :
    wpY_apply Q (pr, mo, fl, lo, ne, mr, co, ex, di) 2 (sI_ (d : Int)) (sI_ (a : Int)) (sI_ (b : Int)) := by
  have via := sI_in ha (show 6 < 2147483648 from by omega)
  have vib := sI_in hb (show 6 < 2147483648 from by omega)
  unfold wpY_apply
  dsimp only
  refine br_f (by decide) (br_f (by decide) (rY_1 hd (br_f n1_0 (rY_1 ha (br_f n1_0 (rY_1 hb (br_f n1_0 (br_f (by decide) (br_t rfl ⟨via, vib, ?_⟩)))))))))
  rw [sI_cl (show a < 2147483648 from by omega), sI_cl (show b < 2147483648 from by omega), ep, eq, sI_add]
  refine ya_begin (fun d1 h1 => ⟨via, vib, via, vib, ?_⟩)
  dsimp only
  rw [cx, cy, ep, eq, sI_add, sI_l (by omega) (by omega), sI_l (by omega) (by omega), sL_mul]
  refine bf_p1 (x * y) (p + q) (p + q) h1 (ap_mulB hx hy) (by omega) (fun d2 h2 h3 _ => ⟨via, vib, ?_⟩)
  dsimp only
  rw [ep, eq, sI_add]
  refine h _ d2 (fun _ _ _ _ _ _ _ _ _ _ z => z) ?_ (fun i hi => ?_)
  · rw [h2, Int.sub_self, Int.toNat_zero, Int.pow_zero, Int.mul_one]
  · have := h3 i hi; omega
theorem ap_159 {pr mo fl lo0 ne mr : Int32} {co ex di : Nat → Int32} {d a b o : Nat} (ho : o < 2) (ha : a < 6) (hb : b < 6) {x y z p q lo : Int} (cx : co a = sI_ x) (cy : co b = sI_ y) (ep : ex a = sI_ p) (eq : ex b = sI_ q) (hx : x.natAbs < 10 ^ 7) (hy : y.natAbs < 10 ^ 7)
    (hz : z = if o = 0 then y else -y) (hp : 0 ≤ p - lo ∧ p - lo ≤ 100) (hq : 0 ≤ q - lo ∧ q - lo ≤ 100)
    (Q : Int32 → SY → Prop) (h : ∀ (q' : Int32 → SY → Prop) (di : Nat → Int32), (∀ r a1 a2 a3 a4 a5 a6 a7 a8 a9, Q r (a1, a2, a3, a4, a5, a6, a7, a8, a9) → q' r (a1, a2, a3, a4, a5, a6, a7, a8, a9)) →
      dv_ di 128 = x * 10 ^ (p - lo).toNat + z * 10 ^ (q - lo).toNat → (∀ i, i < 128 → -50 ≤ (di i).toInt ∧ (di i).toInt ≤ 50) → wpY_finish q' (pr, mo, fl, sI_ lo, bI_ false, bI_ false, co, ex, di) (sI_ (d : Int)) (sI_ lo)) :
    wY_apply_159 Q (sI_ (o : Int)) (sI_ (d : Int)) (sI_ (a : Int)) (sI_ (b : Int)) (sI_ lo) pr mo fl lo0 ne mr co ex di := by
  have via := sI_in ha (show 6 < 2147483648 from by omega)
  have vib := sI_in hb (show 6 < 2147483648 from by omega)
  unfold wY_apply_159 wY_apply_209
  rw [sI_cl (show a < 2147483648 from by omega), sI_cl (show b < 2147483648 from by omega)]
  refine ya_begin (fun d1 h1 => ⟨via, via, ?_⟩)
  dsimp only
  rw [cx, ep, sI_l (by omega) (by omega)]
  refine bf_p1 x p lo h1 (by omega) hp (fun d2 h2 h3 _ => ?_)
  dsimp only
  rw [cy, eq]
  have k : ∀ zz : Int64, zz = sL_ z → wpY_put (fun u => match u with | (f_precision_68, f_mode_69, f_flags_70, f_low_71, f_negative_72, f_more_73, a_coefs_74, a_exps_75, a_digit_76) => (wpY_finish (fun r_77 u => match u with | (f_precision_78, f_mode_79, f_flags_80, f_low_81, f_negative_82, f_more_83, a_coefs_84, a_exps_85, a_digit_86) => (Q r_77 (f_precision_78, f_mode_79, f_flags_80, f_low_81, f_negative_82, f_more_83, a_coefs_84, a_exps_85, a_digit_86))) (f_precision_68, f_mode_69, f_flags_70, f_low_71, f_negative_72, f_more_73, a_coefs_74, a_exps_75, a_digit_76) (sI_ (d : Int)) (sI_ lo))) (pr, mo, fl, sI_ lo, 0, 0, co, ex, d2) zz (sI_ q) := by
    intro zz hzz
    subst hzz
    refine bf_p2 _ z q lo h2 h3 ?_ hq (fun d3 h4 h5 => ?_)
    · rw [hz]
      by_cases c : o = 0
      · rw [if_pos c]; omega
      · rw [if_neg c]; omega
    · exact h _ d3 (fun _ _ _ _ _ _ _ _ _ _ z => z) h4 h5
  refine sI_bEq (o : Int) 0 (fun c => ⟨vib, vib, k _ ?_⟩) (fun c => ⟨vib, vib, k _ ?_⟩)
  · rw [hz, if_pos (by omega), sI_l (by omega) (by omega)]
  · rw [hz, if_neg (by omega), sI_neg, sI_l (by omega) (by omega)]
theorem ap_Ysum {pr mo fl lo0 ne mr : Int32} {co ex di : Nat → Int32} {d a b o : Nat} (ho : o < 2) (hd : d < 6) (ha : a < 6) (hb : b < 6) {x y z p q lo : Int} (cx : co a = sI_ x) (cy : co b = sI_ y) (ep : ex a = sI_ p) (eq : ex b = sI_ q) (hx : x.natAbs < 10 ^ 7) (hy : y.natAbs < 10 ^ 7)
    (hz : z = if o = 0 then y else -y) (hp : -20 ≤ p ∧ p ≤ 20) (hq : -20 ≤ q ∧ q ≤ 20) (hlo : (p < q ∧ lo = p) ∨ (q ≤ p ∧ lo = q))
    (Q : Int32 → SY → Prop) (h : ∀ (q' : Int32 → SY → Prop) (di : Nat → Int32), (∀ r a1 a2 a3 a4 a5 a6 a7 a8 a9, Q r (a1, a2, a3, a4, a5, a6, a7, a8, a9) → q' r (a1, a2, a3, a4, a5, a6, a7, a8, a9)) →
      dv_ di 128 = x * 10 ^ (p - lo).toNat + z * 10 ^ (q - lo).toNat → (∀ i, i < 128 → -50 ≤ (di i).toInt ∧ (di i).toInt ≤ 50) → wpY_finish q' (pr, mo, fl, sI_ lo, bI_ false, bI_ false, co, ex, di) (sI_ (d : Int)) (sI_ lo)) :
    wpY_apply Q (pr, mo, fl, lo0, ne, mr, co, ex, di) (sI_ (o : Int)) (sI_ (d : Int)) (sI_ (a : Int)) (sI_ (b : Int)) := by
  have via := sI_in ha (show 6 < 2147483648 from by omega)
  have vib := sI_in hb (show 6 < 2147483648 from by omega)
  have k := ap_159 (lo0 := lo0) (ne := ne) (mr := mr) (di := di) ho ha hb cx cy ep eq hx hy hz (by omega) (by omega) Q h
  unfold wpY_apply
  dsimp only
  rw [sI_cl (show a < 2147483648 from by omega), sI_cl (show b < 2147483648 from by omega), ep, eq]
  refine sI_bLt (o : Int) 0 (fun hh => by omega) (fun _ => sI_bLt 3 (o : Int) (fun hh => by omega) (fun _ => rY_1 hd (br_f n1_0 (rY_1 ha (br_f n1_0 (rY_1 hb (br_f n1_0 (sI_bEq (o : Int) 3 (fun hh => by omega) (fun _ => sI_bEq (o : Int) 2 (fun hh => by omega) (fun _ => ⟨via, vib, sI_bLe q p (fun c => ⟨vib, ?_⟩) (fun c => ⟨via, ?_⟩)⟩))))))))))
  · rw [show lo = q from by omega] at k
    exact k
  · rw [show lo = p from by omega] at k
    exact k
theorem ap_Y0 {fl pr mo lo0 ne mr : Int32} {co ex di : Nat → Int32} {d a b : Nat} (hd : d < 6) (ha : a < 6) (hb : b < 6) (cy : co b = 0) (Q : Int32 → SY → Prop) (h : Q 4 (pr, mo, fl ||| 4, lo0, ne, mr, co, ex, di)) :
    wpY_apply Q (pr, mo, fl, lo0, ne, mr, co, ex, di) 3 (sI_ (d : Int)) (sI_ (a : Int)) (sI_ (b : Int)) := by
  have via := sI_in ha (show 6 < 2147483648 from by omega)
  have vib := sI_in hb (show 6 < 2147483648 from by omega)
  unfold wpY_apply wpY_divide
  dsimp only
  rw [sI_cl (show b < 2147483648 from by omega), cy]
  exact br_f (by decide) (br_f (by decide) (rY_1 hd (br_f n1_0 (rY_1 ha (br_f n1_0 (rY_1 hb (br_f n1_0 (br_t rfl ⟨via, vib, nm_e ⟨vib, br_t rfl (nm_e h)⟩⟩))))))))
end
section
/-- apply: quotients -/
theorem aq_215 {post : Int32 → SY → Prop} {x1 x4 pr mo fl lo ne mr : Int32} {co ex di : Nat → Int32} {a b : Nat} (ha : a < 6) (hb : b < 6) {x y : Int} (cx : co a = sI_ x) (cy : co b = sI_ y) (hx : x.natAbs < 10 ^ 7) (hy : y.natAbs < 10 ^ 7) (more : Bool)
    (h : ∀ q' : Int32 → SY → Prop, (∀ r a1 a2 a3 a4 a5 a6 a7 a8 a9, post r (a1, a2, a3, a4, a5, a6, a7, a8, a9) → q' r (a1, a2, a3, a4, a5, a6, a7, a8, a9)) →
      wpY_finish q' (pr, mo, fl, lo, bI_ (decide (x < 0) != decide (y < 0)), bI_ more, co, ex, di) x1 x4) :
    wY_divide_215 post x1 (sI_ (a : Int)) (sI_ (b : Int)) x4 (bI_ more) pr mo fl lo ne mr co ex di := by
  have k : ∀ c : Bool, c = (decide (x < 0) != decide (y < 0)) → wY_divide_255 post x1 x4 (bI_ c) pr mo fl lo ne (bI_ more) co ex di := by
    intro c hc
    subst hc
    exact ⟨bI_n _, bI_fit _, h _ (fun _ _ _ _ _ _ _ _ _ _ z => z)⟩
  refine ⟨bI_n more, bI_fit more, sI_in ha (by omega), ?_⟩
  unfold wY_divide_233
  rw [sI_cl (show a < 2147483648 from by omega), sI_cl (show b < 2147483648 from by omega), cx, cy]
  have vib := sI_in hb (show 6 < 2147483648 from by omega)
  refine sI_bLe 0 x (fun z => ⟨vib, sI_bLe 0 y (fun z2 => br_t rfl (k false ?_)) (fun z2 => br_f (by decide) (k true ?_))⟩) (fun z => ⟨vib, sI_bLe 0 y (fun z2 => br_f (by decide) (k true ?_)) (fun z2 => br_t rfl (k false ?_))⟩)
  · rw [decide_eq_false (by omega), decide_eq_false (by omega)]; rfl
  · rw [decide_eq_false (by omega), decide_eq_true (by omega)]; rfl
  · rw [decide_eq_true (by omega), decide_eq_false (by omega)]; rfl
  · rw [decide_eq_true (by omega), decide_eq_true (by omega)]; rfl
theorem aq_86 {post : Int32 → SY → Prop} {pr mo fl lo ne mr : Int32} {co ex di : Nat → Int32} {d a b : Nat} (ha : a < 6) (hb : b < 6) {x y w : Int} (cx : co a = sI_ x) (cy : co b = sI_ y) (hx : x.natAbs < 10 ^ 7) (hy : y.natAbs < 10 ^ 7) (hy0 : y ≠ 0)
    (h : ∀ (q' : Int32 → SY → Prop) (di : Nat → Int32), (∀ r a1 a2 a3 a4 a5 a6 a7 a8 a9, post r (a1, a2, a3, a4, a5, a6, a7, a8, a9) → q' r (a1, a2, a3, a4, a5, a6, a7, a8, a9)) →
      dv_ di 128 = ((x.natAbs * 10 ^ 40 / y.natAbs : Nat) : Int) → (∀ i, i < 128 → -50 ≤ (di i).toInt ∧ (di i).toInt ≤ 50) →
      wpY_finish q' (pr, mo, fl, sI_ (w - 40), bI_ (decide (x < 0) != decide (y < 0)), bI_ (decide (x.natAbs * 10 ^ 40 % y.natAbs ≠ 0)), co, ex, di) (sI_ (d : Int)) (sI_ w)) :
    wY_divide_86 post (sI_ (d : Int)) (sI_ (a : Int)) (sI_ (b : Int)) (sI_ w) (sL_ (x.natAbs : Int)) (sL_ (y.natAbs : Int)) pr mo fl lo ne mr co ex di := by
  have hn : ¬ sL_ (y.natAbs : Int) = 0 := sL_n0 (by omega) (by omega)
  have e1 : sL_ (x.natAbs : Int) - sL_ (x.natAbs : Int) / sL_ (y.natAbs : Int) * sL_ (y.natAbs : Int) = sL_ ((x.natAbs * 10 ^ 0 % y.natAbs : Nat) : Int) := by
    rw [sL_rem (by omega) (by omega), Int.tmod_eq_emod_of_nonneg (by omega), Nat.pow_zero, Nat.mul_one]
    congr 1
  have e2 : sL_ (x.natAbs : Int) / sL_ (y.natAbs : Int) = sL_ ((x.natAbs / y.natAbs : Nat) : Int) := by
    rw [sL_div (by omega) (by omega), Int.natCast_tdiv_eq_ediv]
    congr 1
  have hq : x.natAbs / y.natAbs ≤ x.natAbs := Nat.div_le_self _ _
  unfold wY_divide_86 wY_divide_113 wY_divide_132
  rw [e1, e2, show (40 : Int32) = sI_ 40 from rfl, sI_sub]
  refine ya_begin (fun d1 h1 => ?_)
  refine sL_bLe (y.natAbs : Int) 0 (fun hh => by omega) (fun _ => ⟨hn, sL_bLe (y.natAbs : Int) 0 (fun hh => by omega) (fun _ => ⟨hn, ?_⟩)⟩)
  refine bf_p1 ((x.natAbs / y.natAbs : Nat) : Int) w (w - 40) h1 (by rw [Int.natAbs_natCast]; omega) (by omega) (fun d2 h2 h3 h4 => ?_)
  rw [show w - (w - 40) = 40 from by omega] at h2 h4
  have k := yq_141 post (sI_ (d : Int)) (sI_ (a : Int)) (sI_ (b : Int)) (sI_ w) pr mo fl (sI_ (w - 40)) 0 0 co ex x.natAbs y.natAbs (by omega) (fun di g1 g2 => aq_215 ha hb cx cy hx hy _ (fun q' hq' => h q' di hq' g1 g2)) 40 0 d2 (by omega) h4 (by
    rw [h2, Nat.pow_zero, Nat.mul_one, Int.natCast_mul, tc_]
    rfl) (fun i hi => by have := h3 i hi; omega)
  rw [show sI_ (((40 : Nat) : Int) - 1) = 39 from rfl] at k
  exact ⟨_, k⟩
theorem aq_Y {pr mo fl lo ne mr : Int32} {co ex di : Nat → Int32} {d a b : Nat} (hd : d < 6) (ha : a < 6) (hb : b < 6) {x y p q : Int} (cx : co a = sI_ x) (cy : co b = sI_ y) (ep : ex a = sI_ p) (eq : ex b = sI_ q) (hx : x.natAbs < 10 ^ 7) (hy : y.natAbs < 10 ^ 7) (hy0 : y ≠ 0)
    (Q : Int32 → SY → Prop) (h : ∀ (q' : Int32 → SY → Prop) (di : Nat → Int32), (∀ r a1 a2 a3 a4 a5 a6 a7 a8 a9, Q r (a1, a2, a3, a4, a5, a6, a7, a8, a9) → q' r (a1, a2, a3, a4, a5, a6, a7, a8, a9)) →
      dv_ di 128 = ((x.natAbs * 10 ^ 40 / y.natAbs : Nat) : Int) → (∀ i, i < 128 → -50 ≤ (di i).toInt ∧ (di i).toInt ≤ 50) →
      wpY_finish q' (pr, mo, fl, sI_ (p - q - 40), bI_ (decide (x < 0) != decide (y < 0)), bI_ (decide (x.natAbs * 10 ^ 40 % y.natAbs ≠ 0)), co, ex, di) (sI_ (d : Int)) (sI_ (p - q))) :
    wpY_apply Q (pr, mo, fl, lo, ne, mr, co, ex, di) 3 (sI_ (d : Int)) (sI_ (a : Int)) (sI_ (b : Int)) := by
  have via := sI_in ha (show 6 < 2147483648 from by omega)
  have vib := sI_in hb (show 6 < 2147483648 from by omega)
  unfold wpY_apply
  dsimp only
  refine br_f (by decide) (br_f (by decide) (rY_1 hd (br_f n1_0 (rY_1 ha (br_f n1_0 (rY_1 hb (br_f n1_0 (br_t rfl ?_))))))))
  unfold wpY_divide wY_divide_57
  dsimp only
  rw [sI_cl (show a < 2147483648 from by omega), sI_cl (show b < 2147483648 from by omega), ep, eq, cx, cy, sI_l (a := x) (by omega) (by omega), sI_l (a := y) (by omega) (by omega), sL_neg, sL_neg]
  refine ⟨via, vib, nm_r (sI_sub p q) ⟨vib, sI_bEq y 0 (fun hh => absurd hh hy0) (fun _ => ⟨via, ?_⟩)⟩⟩
  have k := aq_86 (post := fun r u => match u with | (f_precision_128, f_mode_129, f_flags_130, f_low_131, f_negative_132, f_more_133, a_coefs_134, a_exps_135, a_digit_136) => (Q r (f_precision_128, f_mode_129, f_flags_130, f_low_131, f_negative_132, f_more_133, a_coefs_134, a_exps_135, a_digit_136))) (lo := lo) (ne := ne) (mr := mr) (di := di) (ex := ex) (d := d) (w := p - q) ha hb cx cy hx hy hy0 (fun q' di hq' => h q' di (fun r a1 a2 a3 a4 a5 a6 a7 a8 a9 z => hq' r a1 a2 a3 a4 a5 a6 a7 a8 a9 z))
  refine sI_bLe 0 x (fun c1 => ⟨via, vib, ?_⟩) (fun c1 => ⟨via, vib, ?_⟩)
  · rw [show (x.natAbs : Int) = x from by omega] at k
    refine sI_bLe 0 y (fun c2 => ⟨vib, ?_⟩) (fun c2 => ⟨vib, ?_⟩)
    · rw [show (y.natAbs : Int) = y from by omega] at k
      exact k
    · rw [show (y.natAbs : Int) = -y from by omega] at k
      exact k
  · rw [show (x.natAbs : Int) = -x from by omega] at k
    refine sI_bLe 0 y (fun c2 => ⟨vib, ?_⟩) (fun c2 => ⟨vib, ?_⟩)
    · rw [show (y.natAbs : Int) = y from by omega] at k
      exact k
    · rw [show (y.natAbs : Int) = -y from by omega] at k
      exact k
/-- the reference's forty digits against the digits that the unit took -/
theorem aq_m {A B i : Nat} (hB : 0 < B) (hi : i ≤ 40) : A * 10 ^ 40 / B / 10 ^ (40 - i) = A * 10 ^ i / B ∧ (A * 10 ^ i % B ≠ 0 ↔ (A * 10 ^ 40 % B ≠ 0 ∨ A * 10 ^ 40 / B % 10 ^ (40 - i) ≠ 0)) := by
  have e : A * 10 ^ 40 = A * 10 ^ i * 10 ^ (40 - i) := by
    rw [Nat.mul_assoc, ← Nat.pow_add, show i + (40 - i) = 40 from by omega]
  have hu := tn_ (40 - i)
  rw [e]
  generalize 10 ^ (40 - i) = u at *
  generalize A * 10 ^ i = X at *
  refine ⟨?_, ?_⟩
  · rw [Nat.div_div_eq_div_mul, Nat.mul_div_mul_right _ _ hu]
  · have z : X % B = 0 ↔ (X * u % B = 0 ∧ X * u / B % u = 0) := by
      constructor
      · intro h
        obtain ⟨g, hg⟩ := Nat.dvd_of_mod_eq_zero h
        rw [hg, Nat.mul_assoc, Nat.mul_mod_right, Nat.mul_div_cancel_left _ hB, Nat.mul_mod_left]
        exact ⟨rfl, rfl⟩
      · intro h
        obtain ⟨g, hg⟩ := Nat.dvd_of_mod_eq_zero h.1
        rw [hg, Nat.mul_div_cancel_left _ hB] at h
        obtain ⟨t, ht⟩ := Nat.dvd_of_mod_eq_zero h.2
        rw [ht] at hg
        have : X = B * t := by
          apply Nat.eq_of_mul_eq_mul_right hu
          rw [hg]; grind
        rw [this, Nat.mul_mod_right]
    omega
theorem aq_big {A B T : Nat} (hA : 1 ≤ A) (hT : T ≤ 10000000) (hB : B < 10 ^ 7) : T * B ≤ A * 10 ^ 40 :=
  Nat.le_trans (Nat.mul_le_mul hT (Nat.le_of_lt hB)) (Nat.le_trans (by decide : 10000000 * 10 ^ 7 ≤ 1 * 10 ^ 40) (Nat.mul_le_mul_right _ hA))
end
section
theorem va2_bad {k : Nat} {Q : SX → Int32 → SY → Prop} {li ma : Int64} {ro ra ne sc ta pr mo fl lo ne' mr : Int32} {co ex co' ex' di : Nat → Int32} {op d a b : Int32}
    (h : Q (li, ro, ra, ne, ma, sc, ta, co, ex) (-1) (pr, mo, fl, lo, ne', mr, co', ex', di)) (hb : ¬ (¬ op < 0 ∧ ¬ 3 < op ∧ rb_ d = true ∧ rb_ a = true ∧ rb_ b = true)) :
    wpY_apply (Q (li, ro, ra, ne, ma, sc, ta, co, ex)) (pr, mo, fl, lo, ne', mr, co', ex', di) op d a b := by
  unfold wpY_apply
  dsimp only
  exact br_c (fun _ => h) (fun n1 => br_c (fun _ => h) (fun n2 => rr_Y (bI_br _ (fun _ => h) (fun e1 => rr_Y (bI_br _ (fun _ => h) (fun e2 => rr_Y (bI_br _ (fun _ => h) (fun e3 => absurd ⟨n1, n2, e1, e2, e3⟩ hb))))))))
theorem i_vc_apply {k : Nat} {u : SX} {v : SY} (I : i_Rel k u v) (hk : k + 5 ≤ 2561) (v1 : Int32) (v2 : Int32) (v3 : Int32) (v4 : Int32) : wpX_apply (fun r u' => wpY_apply (fun r' v' => r' = r ∧ i_Rel (k + 5) u' v') v v1 v2 v3 v4) u v1 v2 v3 v4 := by
  have I' := i_up I
  obtain ⟨P, mode, fl, co, ex, ne, ma, sc, ta, lo, ne', mr, di, rfl, rfl, hP, hm, hR⟩ := I
  have hp7 := yf_p hP
  by_cases hb : ¬ (¬ v1 < 0 ∧ ¬ 3 < v1 ∧ rb_ v2 = true ∧ rb_ v3 = true ∧ rb_ v4 = true)
  · have h := va2_bad (k := k) (Q := fun u' r' v' => r' = -1 ∧ i_Rel (k + 5) u' v') ⟨rfl, I'⟩ hb
    unfold wpX_apply
    dsimp only
    exact br_c (fun _ => h) (fun n1 => br_c (fun _ => h) (fun n2 => rr_X (bI_br _ (fun _ => h) (fun e1 => rr_X (bI_br _ (fun _ => h) (fun e2 => rr_X (bI_br _ (fun _ => h) (fun e3 => absurd ⟨n1, n2, e1, e2, e3⟩ hb))))))))
  · obtain ⟨n1, n2, e1, e2, e3⟩ := Decidable.not_not.1 hb
    obtain ⟨d, hd, rfl⟩ := rb_of e1
    obtain ⟨a, ha, rfl⟩ := rb_of e2
    obtain ⟨b, hb', rfl⟩ := rb_of e3
    obtain ⟨x, cx, hx0, hx⟩ := rg_c hR hP ha
    obtain ⟨y, cy, hy0, hy⟩ := rg_c hR hP hb'
    obtain ⟨p, ep, hp⟩ := rg_e hR ha
    obtain ⟨q, eq, hq⟩ := rg_e hR hb'
    obtain ⟨o, ho, rfl⟩ : ∃ o : Nat, o < 4 ∧ v1 = sI_ (o : Int) := by
      have b1 := Int32.toInt_lt v1
      have b2 := Int32.le_toInt v1
      have e0 := sI_self v1
      rw [Int32.lt_iff_toInt_lt, Int32.toInt_zero] at n1
      rw [Int32.lt_iff_toInt_lt, show (3 : Int32).toInt = 3 from rfl] at n2
      refine ⟨v1.toInt.toNat, by omega, ?_⟩
      rw [show ((v1.toInt.toNat : Nat) : Int) = v1.toInt from by omega, sI_self]
    have via := sI_in ha (show 6 < 2147483648 from by omega)
    have vib := sI_in hb' (show 6 < 2147483648 from by omega)
    unfold wpX_apply
    dsimp only
    refine br_f n1 (br_f n2 (rX_1 hd (br_f n1_0 (rX_1 ha (br_f n1_0 (rX_1 hb' (br_f n1_0 ⟨via, nm_r (e' := sL_ x) ?_ ⟨vib, nm_r (e' := sL_ y) ?_ ⟨via, nm_r (e' := sI_ p) ?_ ⟨vib, nm_r (e' := sI_ q) ?_ ?_⟩⟩⟩⟩)))))))
    · rw [sI_cl (by omega), cx, sI_l (by omega) (by omega)]
    · rw [sI_cl (by omega), cy, sI_l (by omega) (by omega)]
    · rw [sI_cl (by omega), ep]
    · rw [sI_cl (by omega), eq]
    have cs : o = 2 ∨ o = 3 ∨ o < 2 := by omega
    rcases cs with rfl | rfl | ho2
    · refine br_t rfl (nm_r (sI_add p q) ?_)
      rw [sL_mul]
      have hxy := ap_mulB hx hy
      refine xa_hold (x * y) (by omega) ?_
      dsimp only
      unfold wX_apply_165
      refine bf_fin (fun q => wpY_apply q (sI_ (P : Int), sI_ (mode : Int), fl, lo, ne', mr, co, ex, di) (sI_ ((2 : Nat) : Int)) (sI_ (d : Int)) (sI_ (a : Int)) (sI_ (b : Int))) (k + 5) P mode d (x * y).natAbs 0 false (decide (x * y < 0)) false false (p + q) (p + q) (p + q) (x * y) hP hm hR hd (by omega) (by omega) (by omega) (by omega) (fun c => absurd c (by decide)) (by omega) (by rw [Nat.pow_zero, Nat.div_one]) (by omega) rfl (by rw [Nat.pow_zero, Nat.mod_one]; rfl) (by omega) (fun c => absurd c (by decide)) (fun _ => Or.inl ⟨by omega, fun _ => rfl⟩) (fun _ _ _ _ _ _ _ _ _ _ z => z) (fun Q h => ?_)
      exact ap_Ymul hd ha hb' cx cy ep eq hx hy Q h
    · refine br_f (by decide) (br_t rfl (sL_bEq y 0 (fun z => ?_) (fun z => nm_r (sI_sub p q) ?_)))
      · subst z
        exact nm_e (ap_Y0 hd ha hb' cy _ ⟨rfl, ⟨P, mode, fl ||| 4, co, ex, ne, ma, sc, ta, lo, ne', mr, di, rfl, rfl, hP, hm, hR⟩⟩)
      · refine xq_quot x y (p - q) hx hy z (fun i hi h1 h2 h3 => ?_)
        dsimp only
        unfold wX_apply_165
        have am := aq_m (A := x.natAbs) (B := y.natAbs) (i := i) (by omega) (by omega)
        have hV0 : x.natAbs * 10 ^ 40 / y.natAbs < 10 ^ 128 := by
          have := Nat.div_le_self (x.natAbs * 10 ^ 40) y.natAbs
          omega
        have nV : (((x.natAbs * 10 ^ 40 / y.natAbs : Nat) : Int)).natAbs = x.natAbs * 10 ^ 40 / y.natAbs := Int.natAbs_natCast _
        have nV0 : decide (((x.natAbs * 10 ^ 40 / y.natAbs : Nat) : Int) < 0) = false := decide_eq_false (by have := Int.natCast_nonneg (x.natAbs * 10 ^ 40 / y.natAbs); omega)
        refine bf_fin (fun q => wpY_apply q (sI_ (P : Int), sI_ (mode : Int), fl, lo, ne', mr, co, ex, di) (sI_ ((3 : Nat) : Int)) (sI_ (d : Int)) (sI_ (a : Int)) (sI_ (b : Int))) (k + 5) P mode d (x.natAbs * 10 ^ i / y.natAbs) (40 - i) (decide (x < 0) != decide (y < 0)) (decide (x < 0) != decide (y < 0)) (decide (x.natAbs * 10 ^ 40 % y.natAbs ≠ 0)) (decide (x.natAbs * 10 ^ i % y.natAbs ≠ 0)) (p - q - 40) (p - q) (p - q - i) ((x.natAbs * 10 ^ 40 / y.natAbs : Nat) : Int) hP hm hR hd (by omega) (by omega) (by omega) (by rw [nV]; exact hV0) ?_ (by omega) (by rw [nV]; exact am.1) ?_ (by rw [nV0, Bool.or_false]) ?_ (by omega) ?_ ?_ (fun _ _ _ _ _ _ _ _ _ _ z => z) (fun Q h => ?_)
        · intro c
          have c1 := of_decide_eq_true c
          rw [nV, Nat.le_div_iff_mul_le (by omega)]
          have a1 : 1 ≤ x.natAbs := by
            by_cases c2 : x.natAbs = 0
            · rw [c2, Nat.zero_mul, Nat.zero_mod] at c1; exact absurd rfl c1
            · omega
          exact aq_big a1 hp7.2 hy
        · intro c
          by_cases c1 : x.natAbs * 10 ^ i % y.natAbs = 0
          · have c2 : x.natAbs * 10 ^ i = 0 := by
              have := Nat.div_add_mod (x.natAbs * 10 ^ i) y.natAbs
              rw [c, c1, Nat.mul_zero] at this
              omega
            have c3 : x.natAbs = 0 := by
              rcases Nat.mul_eq_zero.1 c2 with c3 | c3
              · exact c3
              · have := tn_ i; omega
            rw [c3, Nat.zero_mul, Nat.zero_div]; rfl
          · have := h1 c1
            omega
        · rw [nV, ← Bool.decide_or, decide_eq_decide]
          exact am.2
        · intro c
          have := h1 (of_decide_eq_true c)
          omega
        · intro c
          have c1 := of_decide_eq_false c
          rcases h2 (by omega) with c2 | c2
          · exact Or.inl ⟨by omega, fun _ => by omega⟩
          · by_cases c3 : i = 0
            · exact Or.inl ⟨by omega, fun _ => by omega⟩
            · exact Or.inr ⟨by omega, c2⟩
        · exact aq_Y hd ha hb' cx cy ep eq hx hy z Q h
    · have o2 : ¬ sI_ (o : Int) = 2 := fun e => by have := (sI_eqI (a := o) (b := 2) (by omega) (by omega)).1 e; omega
      have o3 : ¬ sI_ (o : Int) = 3 := fun e => by have := (sI_eqI (a := o) (b := 3) (by omega) (by omega)).1 e; omega
      obtain ⟨lw, hlw⟩ : ∃ lw : Int, (p < q ∧ lw = p) ∨ (q ≤ p ∧ lw = q) := by
        by_cases c : p < q
        · exact ⟨p, Or.inl ⟨c, rfl⟩⟩
        · exact ⟨q, Or.inr ⟨by omega, rfl⟩⟩
      obtain ⟨z, hz⟩ : ∃ z : Int, z = if o = 0 then y else -y := ⟨_, rfl⟩
      have hzb : z.natAbs < 10 ^ 15 := by
        rw [hz]
        by_cases c : o = 0
        · rw [if_pos c]; omega
        · rw [if_neg c]; omega
      have key : ∀ zz : Int64, zz = sL_ z → wX_apply_160 (fun r u' => wpY_apply (fun r' v' => r' = r ∧ i_Rel (k + 5) u' v') (sI_ (P : Int), sI_ (mode : Int), fl, lo, ne', mr, co, ex, di) (sI_ (o : Int)) (sI_ (d : Int)) (sI_ (a : Int)) (sI_ (b : Int))) (sI_ (d : Int)) (sI_ q) (sI_ lw) zz (sI_ p) (sL_ x) (sL_ ((10 ^ P : Nat) : Int)) (sI_ (mode : Int)) fl ne ma sc ta co ex := by
        intro zz hzz
        subst hzz
        unfold wX_apply_160 wX_apply_165
        exact bf_hs (fun q => wpY_apply q (sI_ (P : Int), sI_ (mode : Int), fl, lo, ne', mr, co, ex, di) (sI_ (o : Int)) (sI_ (d : Int)) (sI_ (a : Int)) (sI_ (b : Int))) (k + 5) P mode d x z p q lw _ hP hm hR hd (by omega) hzb (by omega) (by omega) hlw rfl (fun _ _ _ _ _ _ _ _ _ h => h) (fun _ _ _ _ _ _ _ _ _ _ z => z) (fun Q h => ap_Ysum ho2 hd ha hb' cx cy ep eq hx hy hz hp hq hlw Q h)
      have key2 : ∀ r : Int32, r = sI_ lw → ((sI_ (o : Int) = 1 → wX_apply_160 (fun r u' => wpY_apply (fun r' v' => r' = r ∧ i_Rel (k + 5) u' v') (sI_ (P : Int), sI_ (mode : Int), fl, lo, ne', mr, co, ex, di) (sI_ (o : Int)) (sI_ (d : Int)) (sI_ (a : Int)) (sI_ (b : Int))) (sI_ (d : Int)) (sI_ q) r (-sL_ y) (sI_ p) (sL_ x) (sL_ ((10 ^ P : Nat) : Int)) (sI_ (mode : Int)) fl ne ma sc ta co ex) ∧ (¬ sI_ (o : Int) = 1 → wX_apply_160 (fun r u' => wpY_apply (fun r' v' => r' = r ∧ i_Rel (k + 5) u' v') (sI_ (P : Int), sI_ (mode : Int), fl, lo, ne', mr, co, ex, di) (sI_ (o : Int)) (sI_ (d : Int)) (sI_ (a : Int)) (sI_ (b : Int))) (sI_ (d : Int)) (sI_ q) r (sL_ y) (sI_ p) (sL_ x) (sL_ ((10 ^ P : Nat) : Int)) (sI_ (mode : Int)) fl ne ma sc ta co ex)) := by
        intro r hr
        subst hr
        refine sI_bEq (o : Int) 1 (fun c => key _ ?_) (fun c => key _ ?_)
        · rw [hz, if_neg (by omega), sL_neg]
        · rw [hz, if_pos (by omega)]
      refine br_f o2 (br_f o3 (sI_bLe q p (fun c => key2 _ ?_) (fun c => key2 _ ?_)))
      · rw [show lw = q from by omega]
      · rw [show lw = p from by omega]
end
section
/-- fused -/
theorem fu_74 {pr mo fl lo0 ne mr : Int32} {co ex di : Nat → Int32} {d a b c : Nat} (ha : a < 6) (hb : b < 6) (hc : c < 6) {x y z p q s lo : Int} (cx : co a = sI_ x) (cy : co b = sI_ y) (cz : co c = sI_ z) (es : ex c = sI_ s) (hx : x.natAbs < 10 ^ 7) (hy : y.natAbs < 10 ^ 7) (hz : z.natAbs < 10 ^ 7)
    (hp : 0 ≤ p - lo ∧ p - lo ≤ 100) (hs : 0 ≤ s - lo ∧ s - lo ≤ 100)
    (Q : Int32 → SY → Prop) (h : ∀ (q' : Int32 → SY → Prop) (di : Nat → Int32), (∀ r a1 a2 a3 a4 a5 a6 a7 a8 a9, Q r (a1, a2, a3, a4, a5, a6, a7, a8, a9) → q' r (a1, a2, a3, a4, a5, a6, a7, a8, a9)) →
      dv_ di 128 = x * y * 10 ^ (p - lo).toNat + z * 10 ^ (s - lo).toNat → (∀ i, i < 128 → -50 ≤ (di i).toInt ∧ (di i).toInt ≤ 50) → wpY_finish q' (pr, mo, fl, sI_ lo, bI_ false, bI_ false, co, ex, di) (sI_ (d : Int)) (sI_ lo)) :
    wY_fused_74 Q (sI_ (d : Int)) (sI_ (a : Int)) (sI_ (b : Int)) (sI_ (c : Int)) (sI_ p) (sI_ lo) pr mo fl lo0 ne mr co ex di := by
  have via := sI_in ha (show 6 < 2147483648 from by omega)
  have vib := sI_in hb (show 6 < 2147483648 from by omega)
  have vic := sI_in hc (show 6 < 2147483648 from by omega)
  unfold wY_fused_74
  rw [sI_cl (show a < 2147483648 from by omega), sI_cl (show b < 2147483648 from by omega), sI_cl (show c < 2147483648 from by omega)]
  refine ya_begin (fun d1 h1 => ⟨via, vib, ?_⟩)
  dsimp only
  rw [cx, cy, sI_l (by omega) (by omega), sI_l (by omega) (by omega), sL_mul]
  refine bf_p1 (x * y) p lo h1 (ap_mulB hx hy) hp (fun d2 h2 h3 _ => ⟨vic, vic, ?_⟩)
  dsimp only
  rw [cz, es, sI_l (by omega) (by omega)]
  refine bf_p2 _ z s lo h2 h3 (by omega) hs (fun d3 h4 h5 => ?_)
  exact h _ d3 (fun _ _ _ _ _ _ _ _ _ _ z => z) h4 h5
theorem fu_Y {pr mo fl lo0 ne mr : Int32} {co ex di : Nat → Int32} {d a b c : Nat} (hd : d < 6) (ha : a < 6) (hb : b < 6) (hc : c < 6) {x y z p q s lo : Int} (cx : co a = sI_ x) (cy : co b = sI_ y) (cz : co c = sI_ z) (ep : ex a = sI_ p) (eq : ex b = sI_ q) (es : ex c = sI_ s) (hx : x.natAbs < 10 ^ 7) (hy : y.natAbs < 10 ^ 7) (hz : z.natAbs < 10 ^ 7)
    (hp : -20 ≤ p ∧ p ≤ 20) (hq : -20 ≤ q ∧ q ≤ 20) (hs : -20 ≤ s ∧ s ≤ 20) (hlo : (p + q < s ∧ lo = p + q) ∨ (s ≤ p + q ∧ lo = s))
    (Q : Int32 → SY → Prop) (h : ∀ (q' : Int32 → SY → Prop) (di : Nat → Int32), (∀ r a1 a2 a3 a4 a5 a6 a7 a8 a9, Q r (a1, a2, a3, a4, a5, a6, a7, a8, a9) → q' r (a1, a2, a3, a4, a5, a6, a7, a8, a9)) →
      dv_ di 128 = x * y * 10 ^ (p + q - lo).toNat + z * 10 ^ (s - lo).toNat → (∀ i, i < 128 → -50 ≤ (di i).toInt ∧ (di i).toInt ≤ 50) → wpY_finish q' (pr, mo, fl, sI_ lo, bI_ false, bI_ false, co, ex, di) (sI_ (d : Int)) (sI_ lo)) :
    wpY_fused Q (pr, mo, fl, lo0, ne, mr, co, ex, di) (sI_ (d : Int)) (sI_ (a : Int)) (sI_ (b : Int)) (sI_ (c : Int)) := by
  have via := sI_in ha (show 6 < 2147483648 from by omega)
  have vib := sI_in hb (show 6 < 2147483648 from by omega)
  have vic := sI_in hc (show 6 < 2147483648 from by omega)
  have k := fu_74 (q := q) (lo0 := lo0) (ne := ne) (mr := mr) (di := di) ha hb hc cx cy cz es hx hy hz (by omega) (by omega) Q h
  unfold wpY_fused
  dsimp only
  rw [sI_cl (show a < 2147483648 from by omega), sI_cl (show b < 2147483648 from by omega), sI_cl (show c < 2147483648 from by omega), ep, eq, es]
  refine rY_1 hd (br_f n1_0 (rY_1 ha (br_f n1_0 (rY_1 hb (br_f n1_0 (rY_1 hc (br_f n1_0 ⟨via, vib, nm_r (sI_add p q) ⟨vic, sI_bLe s (p + q) (fun g => ⟨vic, ?_⟩) (fun g => ?_)⟩⟩)))))))
  · rw [show lo = s from by omega] at k
    exact k
  · rw [show lo = p + q from by omega] at k
    exact k
theorem fu_bad {Q : Int32 → SY → Prop} {pr mo fl lo ne mr : Int32} {co ex di : Nat → Int32} {d a b c : Int32}
    (h : Q (-1) (pr, mo, fl, lo, ne, mr, co, ex, di)) (hb : ¬ (rb_ d = true ∧ rb_ a = true ∧ rb_ b = true ∧ rb_ c = true)) :
    wpY_fused Q (pr, mo, fl, lo, ne, mr, co, ex, di) d a b c := by
  unfold wpY_fused
  dsimp only
  exact rr_Y (bI_br _ (fun _ => h) (fun e0 => rr_Y (bI_br _ (fun _ => h) (fun e1 => rr_Y (bI_br _ (fun _ => h) (fun e2 => rr_Y (bI_br _ (fun _ => h) (fun e3 => absurd ⟨e0, e1, e2, e3⟩ hb))))))))
theorem i_vc_fused {k : Nat} {u : SX} {v : SY} (I : i_Rel k u v) (hk : k + 5 ≤ 2561) (v1 : Int32) (v2 : Int32) (v3 : Int32) (v4 : Int32) : wpX_fused (fun r u' => wpY_fused (fun r' v' => r' = r ∧ i_Rel (k + 5) u' v') v v1 v2 v3 v4) u v1 v2 v3 v4 := by
  have I' := i_up I
  obtain ⟨P, mode, fl, co, ex, ne, ma, sc, ta, lo, ne', mr, di, rfl, rfl, hP, hm, hR⟩ := I
  by_cases hb : ¬ (rb_ v1 = true ∧ rb_ v2 = true ∧ rb_ v3 = true ∧ rb_ v4 = true)
  · have h := fu_bad (Q := fun r' v' => r' = -1 ∧ i_Rel (k + 5) (sL_ ((10 ^ P : Nat) : Int), sI_ (mode : Int), fl, ne, ma, sc, ta, co, ex) v') ⟨rfl, I'⟩ hb
    unfold wpX_fused
    dsimp only
    exact rr_X (bI_br _ (fun _ => h) (fun e0 => rr_X (bI_br _ (fun _ => h) (fun e1 => rr_X (bI_br _ (fun _ => h) (fun e2 => rr_X (bI_br _ (fun _ => h) (fun e3 => absurd ⟨e0, e1, e2, e3⟩ hb))))))))
  · obtain ⟨e0, e1, e2, e3⟩ := Decidable.not_not.1 hb
    obtain ⟨d, hd, rfl⟩ := rb_of e0
    obtain ⟨a, ha, rfl⟩ := rb_of e1
    obtain ⟨b, hb', rfl⟩ := rb_of e2
    obtain ⟨c, hc, rfl⟩ := rb_of e3
    obtain ⟨x, cx, hx0, hx⟩ := rg_c hR hP ha
    obtain ⟨y, cy, hy0, hy⟩ := rg_c hR hP hb'
    obtain ⟨z, cz, hz0, hz⟩ := rg_c hR hP hc
    obtain ⟨p, ep, hp⟩ := rg_e hR ha
    obtain ⟨q, eq, hq⟩ := rg_e hR hb'
    obtain ⟨s, es, hs⟩ := rg_e hR hc
    have via := sI_in ha (show 6 < 2147483648 from by omega)
    have vib := sI_in hb' (show 6 < 2147483648 from by omega)
    have vic := sI_in hc (show 6 < 2147483648 from by omega)
    obtain ⟨lw, hlw⟩ : ∃ lw : Int, (p + q < s ∧ lw = p + q) ∨ (s ≤ p + q ∧ lw = s) := by
      by_cases c : p + q < s
      · exact ⟨p + q, Or.inl ⟨c, rfl⟩⟩
      · exact ⟨s, Or.inr ⟨by omega, rfl⟩⟩
    have hs2 := fun (K : SX → Prop) (post : Int32 → SX → Prop) hK hpost => bf_hs (K := K) (post := post) (ne := ne) (ma := ma) (sc := sc) (ta := ta) (fl := fl) (fun q => wpY_fused q (sI_ (P : Int), sI_ (mode : Int), fl, lo, ne', mr, co, ex, di) (sI_ (d : Int)) (sI_ (a : Int)) (sI_ (b : Int)) (sI_ (c : Int))) (k + 5) P mode d (x * y) z (p + q) s lw _ hP hm hR hd (ap_mulB hx hy) (by omega) (by omega) (by omega) hlw rfl hK hpost (fun Q h => fu_Y hd ha hb' hc cx cy cz ep eq es hx hy hz hp hq hs hlw Q h)
    unfold wpX_fused
    dsimp only
    refine rX_1 hd (br_f n1_0 (rX_1 ha (br_f n1_0 (rX_1 hb' (br_f n1_0 (rX_1 hc (br_f n1_0 ⟨via, vib, nm_r (e' := sL_ (x * y)) ?_ ⟨via, vib, nm_r (e' := sI_ (p + q)) ?_ ⟨vic, ?_⟩⟩⟩)))))))
    · rw [sI_cl (by omega), sI_cl (by omega), cx, cy, sI_l (by omega) (by omega), sI_l (by omega) (by omega), sL_mul]
    · rw [sI_cl (by omega), sI_cl (by omega), ep, eq, sI_add]
    · rw [sI_cl (show c < 2147483648 from by omega), cz, es, sI_l (by omega) (by omega)]
      refine sI_bLe s (p + q) (fun g => ⟨vic, vic, ?_⟩) (fun g => ⟨vic, vic, ?_⟩)
      · rw [show lw = s from by omega] at hs2
        exact hs2 _ _ (fun _ _ _ _ _ _ _ _ _ h => h) (fun _ _ _ _ _ _ _ _ _ _ z => z)
      · rw [show lw = p + q from by omega] at hs2
        exact hs2 _ _ (fun _ _ _ _ _ _ _ _ _ h => h) (fun _ _ _ _ _ _ _ _ _ _ z => z)
/-- compare -/
def cm_ (T : Int) : Int32 := if T = 0 then 0 else if T < 0 then -1 else 1
theorem cm_50 {pr mo fl lo0 ne mr : Int32} {co ex di : Nat → Int32} {a b : Nat} (ha : a < 6) (hb : b < 6) {x y p q lo T : Int} (cx : co a = sI_ x) (cy : co b = sI_ y) (ep : ex a = sI_ p) (eq : ex b = sI_ q) (hx : x.natAbs < 10 ^ 7) (hy : y.natAbs < 10 ^ 7)
    (hp : 0 ≤ p - lo ∧ p - lo ≤ 100) (hq : 0 ≤ q - lo ∧ q - lo ≤ 100) (hT : x * 10 ^ (p - lo).toNat + (-y) * 10 ^ (q - lo).toNat = T)
    (Q : Int32 → SY → Prop) (h : ∀ lo' ne' mr' di', Q (cm_ T) (pr, mo, fl, lo', ne', mr', co, ex, di')) :
    wY_compare_50 Q (sI_ (a : Int)) (sI_ (b : Int)) (sI_ lo) pr mo fl lo0 ne mr co ex di := by
  have via := sI_in ha (show 6 < 2147483648 from by omega)
  have vib := sI_in hb (show 6 < 2147483648 from by omega)
  have hTb : T.natAbs < 10 ^ 128 := by
    rw [← hT]; exact bf_sum (by omega) (by omega) (by omega) (by omega)
  unfold cm_ at h
  unfold wY_compare_50
  rw [sI_cl (show a < 2147483648 from by omega), sI_cl (show b < 2147483648 from by omega)]
  refine ya_begin (fun d1 h1 => ⟨via, via, ?_⟩)
  dsimp only
  rw [cx, ep, sI_l (by omega) (by omega)]
  refine bf_p1 x p lo h1 (by omega) hp (fun d2 h2 h3 _ => ⟨vib, vib, ?_⟩)
  dsimp only
  rw [cy, eq, sI_neg, sI_l (by omega) (by omega)]
  refine bf_p2 _ (-y) q lo h2 h3 (by omega) hq (fun d3 h4 h5 => ?_)
  refine yt_tidy false T (by rw [h4, hT]) hTb h5 (fun d4 D => ?_)
  refine ys_top D hTb (fun z => ?_) (fun t ht g1 g2 => ?_)
  · rw [if_pos (by omega)] at h
    exact br_f (by decide) (h _ _ _ _)
  · have := tn_ t
    rw [if_neg (by omega)] at h
    refine sI_bLe 0 (t : Int) (fun _ => ?_) (fun hh => by omega)
    rw [Bool.false_or]
    refine bI_br _ (fun z => ?_) (fun z => ?_)
    · rw [if_neg (of_decide_eq_false z)] at h
      exact h _ _ _ _
    · rw [if_pos (of_decide_eq_true z)] at h
      exact h _ _ _ _
theorem cm_Y {pr mo fl lo0 ne mr : Int32} {co ex di : Nat → Int32} {a b : Nat} (ha : a < 6) (hb : b < 6) {x y p q lo T : Int} (cx : co a = sI_ x) (cy : co b = sI_ y) (ep : ex a = sI_ p) (eq : ex b = sI_ q) (hx : x.natAbs < 10 ^ 7) (hy : y.natAbs < 10 ^ 7)
    (hp : -20 ≤ p ∧ p ≤ 20) (hq : -20 ≤ q ∧ q ≤ 20) (hlo : (p < q ∧ lo = p) ∨ (q ≤ p ∧ lo = q)) (hT : x * 10 ^ (p - lo).toNat + (-y) * 10 ^ (q - lo).toNat = T)
    (Q : Int32 → SY → Prop) (h : ∀ lo' ne' mr' di', Q (cm_ T) (pr, mo, fl, lo', ne', mr', co, ex, di')) :
    wpY_compare Q (pr, mo, fl, lo0, ne, mr, co, ex, di) (sI_ (a : Int)) (sI_ (b : Int)) := by
  have via := sI_in ha (show 6 < 2147483648 from by omega)
  have vib := sI_in hb (show 6 < 2147483648 from by omega)
  have k := cm_50 (lo0 := lo0) (ne := ne) (mr := mr) (di := di) ha hb cx cy ep eq hx hy (by omega) (by omega) hT Q h
  unfold wpY_compare
  dsimp only
  rw [sI_cl (show a < 2147483648 from by omega), sI_cl (show b < 2147483648 from by omega), ep, eq]
  refine rY_1 ha (br_f n1_0 (rY_1 hb (br_f n1_0 ⟨via, vib, sI_bLe q p (fun g => ⟨vib, ?_⟩) (fun g => ⟨via, ?_⟩)⟩)))
  · rw [show lo = q from by omega] at k
    exact k
  · rw [show lo = p from by omega] at k
    exact k
theorem i_vc_compare {k : Nat} {u : SX} {v : SY} (I : i_Rel k u v) (hk : k + 5 ≤ 2561) (v1 : Int32) (v2 : Int32) : wpX_compare (fun r u' => wpY_compare (fun r' v' => r' = r ∧ i_Rel (k + 5) u' v') v v1 v2) u v1 v2 := by
  have I' := i_up I
  obtain ⟨P, mode, fl, co, ex, ne, ma, sc, ta, lo, ne', mr, di, rfl, rfl, hP, hm, hR⟩ := I
  unfold wpX_compare
  dsimp only
  refine rr_X (bI_br _ (fun e1 => ?_) (fun e1 => rr_X (bI_br _ (fun e2 => ?_) (fun e2 => ?_))))
  · unfold wpY_compare
    dsimp only
    exact rr_Y (by rw [e1]; exact br_t rfl ⟨rfl, I'⟩)
  · obtain ⟨a, ha, rfl⟩ := rb_of e1
    unfold wpY_compare
    dsimp only
    exact rY_1 ha (br_f n1_0 (rr_Y (by rw [e2]; exact br_t rfl ⟨rfl, I'⟩)))
  · obtain ⟨a, ha, rfl⟩ := rb_of e1
    obtain ⟨b, hb, rfl⟩ := rb_of e2
    obtain ⟨x, cx, hx0, hx⟩ := rg_c hR hP ha
    obtain ⟨y, cy, hy0, hy⟩ := rg_c hR hP hb
    obtain ⟨p, ep, hp⟩ := rg_e hR ha
    obtain ⟨q, eq, hq⟩ := rg_e hR hb
    have via := sI_in ha (show 6 < 2147483648 from by omega)
    have vib := sI_in hb (show 6 < 2147483648 from by omega)
    obtain ⟨lw, hlw⟩ : ∃ lw : Int, (p < q ∧ lw = p) ∨ (q ≤ p ∧ lw = q) := by
      by_cases c : p < q
      · exact ⟨p, Or.inl ⟨c, rfl⟩⟩
      · exact ⟨q, Or.inr ⟨by omega, rfl⟩⟩
    obtain ⟨T, hT⟩ : ∃ T : Int, x * 10 ^ (p - lw).toNat + (-y) * 10 ^ (q - lw).toNat = T := ⟨_, rfl⟩
    refine ⟨via, via, vib, vib, ?_⟩
    rw [sI_cl (show a < 2147483648 from by omega), sI_cl (show b < 2147483648 from by omega), cx, cy, ep, eq, sI_neg, sI_l (by omega) (by omega), sI_l (by omega) (by omega)]
    have fin : ∀ (r : Int32) (n1 : Int32) (m1 : Int64) (s1 t1 : Int32), r = cm_ T → wpY_compare (fun r' v' => r' = r ∧ i_Rel (k + 5) (sL_ ((10 ^ P : Nat) : Int), sI_ (mode : Int), fl, n1, m1, s1, t1, co, ex) v') (sI_ (P : Int), sI_ (mode : Int), fl, lo, ne', mr, co, ex, di) (sI_ (a : Int)) (sI_ (b : Int)) := by
      intro r n1 m1 s1 t1 hr
      exact cm_Y ha hb cx cy ep eq hx hy hp hq hlw hT _ (fun lo' ne2 mr' di' => ⟨hr.symm, ⟨P, mode, fl, co, ex, n1, m1, s1, t1, lo', ne2, mr', di', rfl, rfl, hP, hm, hR⟩⟩)
    refine xs_sum x (-y) p q lw T (by omega) (by omega) (by omega) (by omega) hlw hT (fun f hf h1 h2 => ?_)
    dsimp only
    have n0 := Int.natCast_nonneg (T.natAbs / 10 ^ f)
    have hz : T.natAbs / 10 ^ f = 0 ↔ T = 0 := by
      constructor
      · intro z
        rcases h1 with c | c
        · subst c; rw [Nat.pow_zero, Nat.div_one] at z; omega
        · omega
      · intro z
        rw [z]; exact Nat.zero_div _
    generalize T.natAbs / 10 ^ f = m at *
    refine sL_bEq (m : Int) 0 (fun z => fin _ _ _ _ _ ?_) (fun z => bI_br _ (fun z2 => fin _ _ _ _ _ ?_) (fun z2 => fin _ _ _ _ _ ?_))
    · unfold cm_; rw [if_pos (hz.1 (by omega))]
    · unfold cm_; rw [if_neg (fun c => z (by have := hz.2 c; omega)), if_neg (of_decide_eq_false z2)]
    · unfold cm_; rw [if_neg (fun c => z (by have := hz.2 c; omega)), if_pos (of_decide_eq_true z2)]
end
section
/-- quantise: Y -/
theorem qz_204 {post : Int32 → SY → Prop} {mo fl lo mr : Int32} {co ex di : Nat → Int32} (P : Nat) (neg ch lw : Bool) (c d : Nat) (e : Int) (hP : 3 ≤ P ∧ P ≤ 7) (hd : d < 6) (hc : c < 10 ^ 18) (he : -20 ≤ e ∧ e ≤ 20)
    (hs : c < 10 ^ P → KY_ post (sI_ (P : Int)) mo (rs_ neg c e (bI_ ch ||| (if lw = true then 2 else 0)) fl co ex d)) (hr : 10 ^ P ≤ c → KY_ post (sI_ (P : Int)) mo (8, fl ||| 8, co, ex)) :
    wY_quantise_204 post (sI_ (d : Int)) (sI_ e) (bI_ lw) (sL_ (c : Int)) (bI_ ch) (sI_ (P : Int)) mo fl lo (bI_ neg) mr co ex di := by
  have k244 : ∀ z : Int, z = sg_ neg c → c < 10 ^ P → wY_quantise_244 post (sI_ (d : Int)) (sI_ e) (bI_ lw) (bI_ ch) (sL_ z) (sI_ (d : Int)) (sI_ (P : Int)) mo fl lo (bI_ neg) mr co ex di := by
    intro z hz hcP
    have h := hs hcP
    have hcl : cl_ e = e := by unfold cl_; rw [if_neg (by omega), if_neg (by omega)]
    have hno : ¬ (c ≠ 0 ∧ (e < -20 ∨ 20 < e)) := by omega
    unfold rs_ at h
    rw [if_neg hno, hcl] at h
    unfold wY_quantise_244
    rw [sI_cl (show d < 2147483648 from by omega), sL_i, hz]
    refine ⟨sI_in hd (by omega), nm_e ⟨sI_in hd (by omega), nm_e (bI_br ch (fun e1 => bI_br lw (fun e2 => ?_) (fun e2 => ?_)) (fun e1 => bI_br lw (fun e2 => ?_) (fun e2 => ?_)))⟩⟩
    · rw [e1, e2, if_neg (by decide)] at h; exact nm_e (h _ _ _ _)
    · rw [e1, e2, if_pos rfl] at h; exact nm_e (h _ _ _ _)
    · rw [e1, e2, if_neg (by decide)] at h; exact nm_e (h _ _ _ _)
    · rw [e1, e2, if_pos rfl] at h; exact nm_e (h _ _ _ _)
  unfold wY_quantise_204
  refine yk_dig (c : Int) P rfl (by omega) (by omega) (fun x hx => yk_if hx (fun q => bI_br neg (fun b => k244 _ ?_ (by omega)) (fun b => ?_)) (fun q => nm_e (hr (by omega) _ _ _ _)))
  · rw [b]; rfl
  · rw [sL_neg]; refine k244 _ ?_ (by omega); rw [b]; rfl
theorem qz_147 (post : Int32 → SY → Prop) (pr fl lo : Int32) (co ex di : Nat → Int32) (x1 x3 x4 : Int32) (mode : Nat) (neg : Bool) {M : Nat} (n c : Nat) (hm : mode ≤ 6) (D : dg_ di M) (hn : n ≤ 128) (hc : c = M / 10 ^ n) (hc2 : c < 10 ^ 18)
    (h : wY_quantise_204 post x1 x3 x4 (sL_ (rq_ mode neg M n false : Int)) (bI_ (decide (M % 10 ^ n ≠ 0))) pr (sI_ (mode : Int)) fl lo (bI_ neg) (bI_ false) co ex di) :
    ∀ d k : Nat, k + d = n → wY_quantise_147 post x1 x3 x4 (sI_ (n : Int)) (sL_ (c : Int)) pr (sI_ (mode : Int)) fl lo (bI_ neg) (bI_ false) co ex di (d + 1) (bI_ (decide (M % 10 ^ k ≠ 0))) (sI_ (k : Int)) := by
  intro d
  induction d with
  | zero =>
    intro k hk
    have : k = n := by omega
    subst this
    have key : wY_quantise_192 post x1 x3 x4 (sL_ (c : Int)) (bI_ (decide (M % 10 ^ k ≠ 0))) (bI_ (decide (c % 2 = 1))) (sI_ (k : Int)) pr (sI_ (mode : Int)) fl lo (bI_ neg) (bI_ false) co ex di := by
      unfold rq_ at h
      rw [← hc] at h
      refine yv_up mode hm neg false D c k (by omega) (fun _ => rfl) (bI_br _ (fun z => ?_) (fun z => nm_r (sL_add (c : Int) 1) ?_))
      · rw [z, if_neg (by decide)] at h; exact h
      · rw [z, if_pos rfl] at h; exact h
    refine sI_bLe (k : Int) (k : Int) (fun _ => ⟨sL_2, ?_⟩) (fun hh => by omega)
    rw [sL_rem2 (by omega), Int.tmod_eq_emod_of_nonneg (by omega)]
    refine sL_bEq ((c : Int) % 2) 1 (fun z => ?_) (fun z => ?_)
    · rw [show decide (c % 2 = 1) = true from decide_eq_true (by omega)] at key
      exact key
    · rw [show decide (c % 2 = 1) = false from decide_eq_false (by omega)] at key
      exact key
  | succ d ih =>
    intro k hk
    refine sI_bLe (n : Int) (k : Int) (fun hh => by omega) (fun _ => ⟨sI_in (by omega) (by omega), ?_⟩)
    rw [sI_cl (by omega), D k (by omega)]
    have hs := dd_m M k
    have hk1 := ih (k + 1) (by omega)
    refine ys_ne (by omega) (fun z => nm_r (sI_add k 1) ?_) (fun z => nm_r (sI_add k 1) ?_)
    · rw [hs, z, Nat.mul_zero, Nat.add_zero] at hk1
      exact hk1
    · have hp := Nat.mul_pos (tn_ k) (Nat.pos_of_ne_zero z)
      rw [decide_eq_true (show M % 10 ^ (k + 1) ≠ 0 from by rw [hs]; omega)] at hk1
      exact hk1
theorem qz_63 {post : Int32 → SY → Prop} {fl lo0 ne mr x4 : Int32} {co ex di : Nat → Int32} (P mode : Nat) {d a n : Nat} {x p e lo : Int} {M : Nat} (hP : 3 ≤ P ∧ P ≤ 7) (hm : mode ≤ 6) (ha : a < 6) (cx : co a = sI_ x) (ep : ex a = sI_ p) (hx : x.natAbs < 10 ^ 7)
    (hp : 0 ≤ p - lo ∧ p - lo ≤ 100) (hn : e - lo = (n : Int)) (hn2 : n ≤ 100) (hM : M = x.natAbs * 10 ^ (p - lo).toNat)
    (h8 : 10 ^ (n + 18) ≤ M → KY_ post (sI_ (P : Int)) (sI_ (mode : Int)) (8, fl ||| 8, co, ex))
    (h : M < 10 ^ (n + 18) → ∀ di', wY_quantise_204 post (sI_ (d : Int)) (sI_ e) x4 (sL_ (rq_ mode (decide (x < 0)) M n false : Int)) (bI_ (decide (M % 10 ^ n ≠ 0))) (sI_ (P : Int)) (sI_ (mode : Int)) fl (sI_ lo) (bI_ (decide (x < 0))) (bI_ false) co ex di') :
    wY_quantise_63 post (sI_ (d : Int)) (sI_ (a : Int)) (sI_ e) x4 (sI_ lo) (sI_ (P : Int)) (sI_ (mode : Int)) fl lo0 ne mr co ex di := by
  have via := sI_in ha (show 6 < 2147483648 from by omega)
  have hV : (x * 10 ^ (p - lo).toNat).natAbs = M := by
    rw [Int.natAbs_mul, Int.natAbs_pow, hM]; rfl
  have hVb : (x * 10 ^ (p - lo).toNat).natAbs < 10 ^ 128 := by
    have := bf_sum (x := x) (y := 0) (i := (p - lo).toNat) (j := 0) (by omega) (by decide) (by omega) (by omega)
    rw [Int.zero_mul, Int.add_zero] at this
    exact this
  have hneg : decide (x * 10 ^ (p - lo).toNat < 0) = decide (x < 0) := by
    have t := tp_ (p - lo).toNat
    generalize (10 : Int) ^ (p - lo).toNat = T at *
    rw [decide_eq_decide]
    constructor
    · intro z
      by_cases c : x < 0
      · exact c
      · have := Int.mul_nonneg (show 0 ≤ x from by omega) (Int.le_of_lt t)
        omega
    · intro z
      exact Int.mul_neg_of_neg_of_pos z t
  unfold wY_quantise_63
  rw [sI_cl (show a < 2147483648 from by omega)]
  refine ya_begin (fun d1 h1 => ⟨via, via, ?_⟩)
  dsimp only
  rw [cx, ep, sI_l (by omega) (by omega)]
  refine bf_p1 x p lo h1 (by omega) hp (fun d2 h2 h3 _ => ?_)
  have hb50 : ∀ i, i < 128 → -50 ≤ (d2 i).toInt ∧ (d2 i).toInt ≤ 50 := fun i hi => by have := h3 i hi; omega
  refine yt_tidy false _ h2 hVb hb50 (fun d3 D => ?_)
  rw [hV] at D hVb
  rw [hneg, Bool.false_or]
  have fin : ∀ c : Nat, c = M / 10 ^ n → M < 10 ^ (n + 18) → ∃ n147, wY_quantise_147 post (sI_ (d : Int)) (sI_ e) x4 (sI_ (n : Int)) (sL_ (c : Int)) (sI_ (P : Int)) (sI_ (mode : Int)) fl (sI_ lo) (bI_ (decide (x < 0))) (bI_ false) co ex d3 n147 0 0 := by
    intro c hc hM2
    have hc2 : c < 10 ^ 18 := by
      rw [hc]
      refine Nat.div_lt_of_lt_mul ?_
      rw [← Nat.pow_add]
      exact hM2
    have k := qz_147 post (sI_ (P : Int)) fl (sI_ lo) co ex d3 (sI_ (d : Int)) (sI_ e) x4 mode (decide (x < 0)) n c hm D (by omega) hc hc2 (h hM2 d3) n 0 (by omega)
    rw [Nat.pow_zero, Nat.mod_one] at k
    exact ⟨_, k⟩
  refine nm_r (e' := sI_ (n : Int)) (by rw [sI_sub, hn]) ?_
  have hcut : ∀ r : Int, -1 ≤ r ∧ r < 128 → sI_ r - sI_ (n : Int) + 1 = sI_ (r - n + 1) := fun r _ => by rw [sI_sub, sI_p1]
  have hcut1 : (-1 : Int32) - sI_ (n : Int) + 1 = sI_ ((-1 : Int) - n + 1) := by
    rw [show (-1 : Int32) = sI_ (-1) from rfl, sI_sub, sI_p1]
  refine ys_top D hVb (fun z => ?_) (fun t ht g1 g2 => ?_)
  · refine sI_bLe ((-1 : Int) - n + 1) 18 (fun _ => sI_bLe (n : Int) (-1) (fun hh => by omega) (fun _ => fin 0 ?_ ?_)) (fun hh => by omega) hcut1
    · rw [z, Nat.zero_div]
    · rw [z]; exact tn_ _
  · refine sI_bLe ((t : Int) - n + 1) 18 (fun g3 => ?_) (fun g3 => ?_) (hcut t (by omega))
    · have hM2 : M < 10 ^ (n + 18) := by
        have := dd_le (a := t + 1) (b := n + 18) (by omega)
        omega
      refine sI_bLe (n : Int) (t : Int) (fun g4 => ?_) (fun g4 => fin 0 ?_ hM2)
      · refine ys_part D n t (by omega) ht g2 ?_ (fin _ rfl hM2)
        refine Nat.div_lt_of_lt_mul ?_
        rw [← Nat.pow_add]
        exact hM2
      · have := dd_le (a := t + 1) (b := n) (by omega)
        rw [Nat.div_eq_of_lt (by omega)]
    · have := dd_le (a := n + 18) (b := t) (by omega)
      exact nm_e (h8 (by omega) _ _ _ _)
end
section
theorem qy_top {Q : Int32 → SY → Prop} {pr mo fl lo ne mr : Int32} {co ex di : Nat → Int32} {d a : Nat} (hd : d < 6) (ha : a < 6) {p e : Int} (ep : ex a = sI_ p) (hp : -20 ≤ p ∧ p ≤ 20) (he : -20 ≤ e ∧ e ≤ 20)
    (h0 : e ≤ p → wY_quantise_63 Q (sI_ (d : Int)) (sI_ (a : Int)) (sI_ e) (bI_ false) (sI_ e) pr mo fl lo ne mr co ex di)
    (h1 : p < e → wY_quantise_63 Q (sI_ (d : Int)) (sI_ (a : Int)) (sI_ e) (bI_ true) (sI_ p) pr mo fl lo ne mr co ex di) :
    wpY_quantise Q (pr, mo, fl, lo, ne, mr, co, ex, di) (sI_ (d : Int)) (sI_ (a : Int)) (sI_ e) := by
  have via := sI_in ha (show 6 < 2147483648 from by omega)
  unfold wpY_quantise wY_quantise_45
  dsimp only
  rw [sI_cl (show a < 2147483648 from by omega), ep]
  exact rY_1 hd (br_f n1_0 (rY_1 ha (br_f n1_0 (sI_bLt e (-20) (fun hh => by omega) (fun _ => sI_bLe e 20 (fun _ => ⟨via, sI_bLe e p (fun c => br_t rfl (h0 c)) (fun c => br_f (by decide) ⟨via, h1 c⟩)⟩) (fun hh => by omega))))))
theorem qy_low {Q : Int32 → SY → Prop} {fl lo ne mr : Int32} {co ex di : Nat → Int32} (P mode : Nat) {d a n : Nat} {x p e : Int} (hP : 3 ≤ P ∧ P ≤ 7) (hm : mode ≤ 6) (hd : d < 6) (ha : a < 6) (cx : co a = sI_ x) (ep : ex a = sI_ p) (hx : x.natAbs < 10 ^ P) (hp : -20 ≤ p ∧ p ≤ 20) (he : -20 ≤ e ∧ e ≤ 20) (hn : e - p = (n : Int)) (hn1 : 1 ≤ n)
    (h : rq_ mode (decide (x < 0)) x.natAbs n false < 10 ^ P → KY_ Q (sI_ (P : Int)) (sI_ (mode : Int)) (rs_ (decide (x < 0)) (rq_ mode (decide (x < 0)) x.natAbs n false) e (if x.natAbs % 10 ^ n ≠ 0 then 3 else 2) fl co ex d)) :
    wpY_quantise Q (sI_ (P : Int), sI_ (mode : Int), fl, lo, ne, mr, co, ex, di) (sI_ (d : Int)) (sI_ (a : Int)) (sI_ e) := by
  have hpp := yf_p hP
  have hr := xf_rq mode (decide (x < 0)) x.natAbs n false
  have h10 : x.natAbs / 10 ^ n ≤ x.natAbs / 10 := by
    have := xf_dle x.natAbs (i := 1) (j := n) hn1
    rw [Nat.pow_one] at this
    exact this
  have hc : rq_ mode (decide (x < 0)) x.natAbs n false < 10 ^ P := by omega
  have k := h hc
  refine qy_top hd ha ep hp he (fun c => by omega) (fun c => ?_)
  refine qz_63 (n := n) (M := x.natAbs) P mode hP hm ha cx ep (by omega) (by omega) hn (by omega) (by rw [Int.sub_self, Int.toNat_zero, Nat.pow_zero, Nat.mul_one]) (fun g => ?_) (fun _ di' => ?_)
  · have := dd_le (a := 18) (b := n + 18) (by omega)
    omega
  · refine qz_204 P _ _ true _ d e hP hd (by omega) he (fun _ => ?_) (fun g => by omega)
    by_cases c : x.natAbs % 10 ^ n ≠ 0
    · rw [if_pos c] at k
      rw [decide_eq_true c]
      exact k
    · rw [if_neg c] at k
      rw [decide_eq_false c]
      exact k
theorem qy_same {Q : Int32 → SY → Prop} {fl lo ne mr : Int32} {co ex di : Nat → Int32} (P mode : Nat) {d a n : Nat} {x p e : Int} (hP : 3 ≤ P ∧ P ≤ 7) (hm : mode ≤ 6) (hd : d < 6) (ha : a < 6) (cx : co a = sI_ x) (ep : ex a = sI_ p) (hx : x.natAbs < 10 ^ P) (hp : -20 ≤ p ∧ p ≤ 20) (he : -20 ≤ e ∧ e ≤ 20) (hn : p - e = (n : Int))
    (hs : x.natAbs * 10 ^ n < 10 ^ P → KY_ Q (sI_ (P : Int)) (sI_ (mode : Int)) (rs_ (decide (x < 0)) (x.natAbs * 10 ^ n) e 0 fl co ex d))
    (hr : 10 ^ P ≤ x.natAbs * 10 ^ n → KY_ Q (sI_ (P : Int)) (sI_ (mode : Int)) (8, fl ||| 8, co, ex)) :
    wpY_quantise Q (sI_ (P : Int), sI_ (mode : Int), fl, lo, ne, mr, co, ex, di) (sI_ (d : Int)) (sI_ (a : Int)) (sI_ e) := by
  have hpp := yf_p hP
  refine qy_top hd ha ep hp he (fun c => ?_) (fun c => by omega)
  refine qz_63 (n := 0) (M := x.natAbs * 10 ^ n) P mode hP hm ha cx ep (by omega) (by omega) (by omega) (by omega) (by rw [hn]; rfl) (fun g => hr ?_) (fun g di' => ?_)
  · have := dd_le (a := P) (b := 0 + 18) (by omega)
    omega
  · generalize x.natAbs * 10 ^ n = M at *
    rw [mm_rq0 mode _ M 0 (Nat.mod_one M), Nat.pow_zero, Nat.div_one, Nat.mod_one]
    exact qz_204 P _ false false M d e hP hd (by omega) he (fun q => hs q) (fun q => hr q)
theorem qx_ru {R U U' : Nat} (mode : Nat) (neg : Bool) (q : Nat) (more : Bool) (h1 : 2 * R < U) (h2 : 2 * R < U') : ru_ mode neg q R U more = ru_ mode neg q R U' more := by
  unfold ru_
  have a1 : ¬ U < 2 * R := by omega
  have a2 : ¬ 2 * R = U := by omega
  have a3 : ¬ U ≤ 2 * R := by omega
  have b1 : ¬ U' < 2 * R := by omega
  have b2 : ¬ 2 * R = U' := by omega
  have b3 : ¬ U' ≤ 2 * R := by omega
  simp only [a1, a2, a3, b1, b2, b3]
theorem qx_rq (mode : Nat) (neg : Bool) {m n N : Nat} (hm : m < 10 ^ 7) (hN : (N = n ∧ n ≤ 18) ∨ (N = 18 ∧ 18 ≤ n)) :
    rq_ mode neg m N false = rq_ mode neg m n false ∧ m % 10 ^ N = m % 10 ^ n := by
  rcases hN with ⟨rfl, _⟩ | ⟨rfl, h⟩
  · exact ⟨rfl, rfl⟩
  · have := dd_le (a := 18) (b := n) h
    have e1 : m / 10 ^ n = m / 10 ^ 18 := by rw [Nat.div_eq_of_lt (by omega), Nat.div_eq_of_lt (by omega)]
    have e2 : m % 10 ^ n = m % 10 ^ 18 := by rw [Nat.mod_eq_of_lt (by omega), Nat.mod_eq_of_lt (by omega)]
    have e3 : m % 10 ^ 18 = m := Nat.mod_eq_of_lt (by omega)
    refine ⟨?_, e2.symm⟩
    unfold rq_
    rw [e1, e2, e3, qx_ru mode neg _ false (show 2 * m < 10 ^ n from by omega) (show 2 * m < 10 ^ 18 from by omega)]
theorem i_vc_quantise {k : Nat} {u : SX} {v : SY} (I : i_Rel k u v) (hk : k + 5 ≤ 2561) (v1 : Int32) (v2 : Int32) (v3 : Int32) : wpX_quantise (fun r u' => wpY_quantise (fun r' v' => r' = r ∧ i_Rel (k + 5) u' v') v v1 v2 v3) u v1 v2 v3 := by
  have I' := i_up I
  obtain ⟨P, mode, fl, co, ex, ne, ma, sc, ta, lo, ne', mr, di, rfl, rfl, hP, hm, hR⟩ := I
  have hpp := yf_p hP
  unfold wpX_quantise
  dsimp only
  refine rr_X (bI_br _ (fun e1 => ?_) (fun e1 => rr_X (bI_br _ (fun e2 => ?_) (fun e2 => re_X (bI_br _ (fun e3 => ?_) (fun e3 => ?_))))))
  · unfold wpY_quantise
    dsimp only
    exact rr_Y (by rw [e1]; exact br_t rfl ⟨rfl, I'⟩)
  · obtain ⟨d, hd, rfl⟩ := rb_of e1
    unfold wpY_quantise
    dsimp only
    exact rY_1 hd (br_f n1_0 (rr_Y (by rw [e2]; exact br_t rfl ⟨rfl, I'⟩)))
  · obtain ⟨d, hd, rfl⟩ := rb_of e1
    obtain ⟨a, ha, rfl⟩ := rb_of e2
    unfold wpY_quantise
    dsimp only
    have g1 := Int32.toInt_lt v3
    have g2 := Int32.le_toInt v3
    have g3 := of_decide_eq_false e3
    have g0 := sI_self v3
    generalize v3.toInt = e at *
    subst g0
    exact rY_1 hd (br_f n1_0 (rY_1 ha (br_f n1_0 (sI_bLt e (-20) (fun _ => ⟨rfl, I'⟩) (fun _ => sI_bLe e 20 (fun _ => by omega) (fun _ => ⟨rfl, I'⟩))))))
  · obtain ⟨d, hd, rfl⟩ := rb_of e1
    obtain ⟨a, ha, rfl⟩ := rb_of e2
    obtain ⟨e, he, rfl⟩ := eb_of e3
    obtain ⟨x, cx, hx0, hx⟩ := rg_c hR hP ha
    obtain ⟨p, ep, hp⟩ := rg_e hR ha
    have via := sI_in ha (show 6 < 2147483648 from by omega)
    refine ⟨via, via, ?_⟩
    rw [sI_cl (show a < 2147483648 from by omega), cx, ep, sI_l (by omega) (by omega)]
    refine xa_hold x (by omega) ?_
    dsimp only
    refine nm_r (sI_sub e p) (sI_bLe (e - p) 0 (fun c => ?_) (fun c => ?_))
    · obtain ⟨n, hn⟩ := Int.eq_ofNat_of_zero_le (show 0 ≤ p - e from by omega)
      have hneg : -sI_ (e - p) = sI_ (n : Int) := by rw [sI_neg]; congr 1; omega
      rw [hneg]
      have key : ∀ N : Nat, (N = n ∧ n ≤ 7) ∨ (N = 7 ∧ 7 ≤ n) → wpX_powerOfTen (fun r_22 => (∀ f_magnitude_23 : Int64, f_magnitude_23 = sL_ (x.natAbs : Int) * r_22 → (((f_magnitude_23 < sL_ ((10 ^ P : Nat) : Int) → (wpX_store (fun u => match u with | (f_limit_26, f_rounding_27, f_raised_28, f_negative_29, f_magnitude_30, f_scale_31, f_tail_32, a_coefficients_33, a_exponents_34) => wpY_quantise (fun r' v' => r' = 0 ∧ i_Rel (k + 5) (f_limit_26, f_rounding_27, f_raised_28, f_negative_29, f_magnitude_30, f_scale_31, f_tail_32, a_coefficients_33, a_exponents_34) v') (sI_ (P : Int), sI_ (mode : Int), fl, lo, ne', mr, co, ex, di) (sI_ (d : Int)) (sI_ (a : Int)) (sI_ e)) (sL_ ((10 ^ P : Nat) : Int), sI_ (mode : Int), fl, bI_ (decide (x < 0)), f_magnitude_23, sI_ p, bI_ false, co, ex) (sI_ (d : Int)) (sI_ e))) ∧ (¬ f_magnitude_23 < sL_ ((10 ^ P : Nat) : Int) → (wpX_raise (fun r_35 u => match u with | (f_limit_36, f_rounding_37, f_raised_38, f_negative_39, f_magnitude_40, f_scale_41, f_tail_42, a_coefficients_43, a_exponents_44) => wpY_quantise (fun r' v' => r' = r_35 ∧ i_Rel (k + 5) (f_limit_36, f_rounding_37, f_raised_38, f_negative_39, f_magnitude_40, f_scale_41, f_tail_42, a_coefficients_43, a_exponents_44) v') (sI_ (P : Int), sI_ (mode : Int), fl, lo, ne', mr, co, ex, di) (sI_ (d : Int)) (sI_ (a : Int)) (sI_ e)) (sL_ ((10 ^ P : Nat) : Int), sI_ (mode : Int), fl, bI_ (decide (x < 0)), f_magnitude_23, sI_ p, bI_ false, co, ex) 8)))))) (sI_ (N : Int)) := by
        intro N hN
        refine xa_pow N N (by omega) (Or.inl ⟨rfl, by omega⟩) ?_
        have hN7 : 10 ^ N ≤ 10 ^ 7 := dd_le (by omega)
        have hmul : x.natAbs * 10 ^ N ≤ 10 ^ 7 * 10 ^ 7 := Nat.mul_le_mul (by omega) hN7
        have heq : (x.natAbs * 10 ^ N < 10 ^ P ↔ x.natAbs * 10 ^ n < 10 ^ P) ∧ (x.natAbs * 10 ^ N < 10 ^ P → x.natAbs * 10 ^ N = x.natAbs * 10 ^ n) := by
          rcases hN with ⟨rfl, _⟩ | ⟨rfl, h7⟩
          · exact ⟨Iff.rfl, fun _ => rfl⟩
          · by_cases z : x.natAbs = 0
            · rw [z, Nat.zero_mul, Nat.zero_mul]; exact ⟨Iff.rfl, fun _ => rfl⟩
            · have w1 := Nat.mul_le_mul (show 1 ≤ x.natAbs from by omega) (Nat.le_refl (10 ^ 7))
              have w2 := Nat.mul_le_mul (show 1 ≤ x.natAbs from by omega) (dd_le (a := 7) (b := n) h7)
              have w3 := dd_le (a := P) (b := 7) hP.2
              refine ⟨⟨fun g => ?_, fun g => ?_⟩, fun g => ?_⟩ <;> omega
        have e5 : sL_ (x.natAbs : Int) * sL_ ((10 ^ N : Nat) : Int) = sL_ ((x.natAbs * 10 ^ N : Nat) : Int) := by
          rw [sL_mul, Int.natCast_mul]
        refine nm_r e5 ?_
        generalize hM : x.natAbs * 10 ^ N = M at *
        refine sL_bLt (M : Int) ((10 ^ P : Nat) : Int) (fun z => ?_) (fun z => ?_)
        · have hM2 := heq.2 (by omega)
          refine xf_store (decide (x < 0)) M d hd ?_
          dsimp only
          refine qy_same P mode hP hm hd ha cx ep hx0 hp he hn (fun g => ?_) (fun g => by omega)
          intro lo' n2 m2 d2
          rw [← hM2]
          have hno : ¬ (M ≠ 0 ∧ (e < -20 ∨ 20 < e)) := by omega
          have hcl : cl_ e = e := by unfold cl_; rw [if_neg (by omega), if_neg (by omega)]
          have hrs : rs_ (decide (x < 0)) M e 0 fl co ex d = (0, fl, upd co d (sI_ (sg_ (decide (x < 0)) M)), upd ex d (sI_ e)) := by
            unfold rs_
            rw [if_neg hno, hcl, show fl ||| 0 = fl from Int32.or_zero]
          rw [hrs]
          refine ⟨rfl, ⟨P, mode, _, _, _, _, _, _, _, _, _, _, _, rfl, rfl, hP, hm, RG_set hR ?_ hP.2 he⟩⟩
          generalize decide (x < 0) = ng
          cases ng
          · show ((M : Int)).natAbs < _; omega
          · show (-(M : Int)).natAbs < _; omega
        · refine nm_e ?_
          dsimp only
          refine qy_same P mode hP hm hd ha cx ep hx0 hp he hn (fun g => ?_) (fun g => ?_)
          · have := heq.1.2 g
            omega
          · exact fun _ _ _ _ => ⟨rfl, ⟨P, mode, _, _, _, _, _, _, _, _, _, _, _, rfl, rfl, hP, hm, hR⟩⟩
      exact sI_bLe 7 (n : Int) (fun g => key 7 (Or.inr ⟨rfl, by omega⟩)) (fun g => key n (Or.inl ⟨rfl, by omega⟩))
    · obtain ⟨n, hn⟩ := Int.eq_ofNat_of_zero_le (show 0 ≤ e - p from by omega)
      rw [hn]
      obtain ⟨N, hN⟩ : ∃ N, (N = n ∧ n ≤ 18) ∨ (N = 18 ∧ 18 ≤ n) := by
        by_cases c : n ≤ 18
        · exact ⟨n, Or.inl ⟨rfl, c⟩⟩
        · exact ⟨18, Or.inr ⟨rfl, by omega⟩⟩
      have hq := qx_rq mode (decide (x < 0)) hx hN
      refine xa_drop mode hm (decide (x < 0)) false x.natAbs p n N (by omega) hN (by omega) ?_
      rw [hq.1, hq.2, Bool.or_false]
      dsimp only
      refine xf_store (decide (x < 0)) _ d hd ?_
      dsimp only
      have fin : ∀ f : Int32, f = (if x.natAbs % 10 ^ n ≠ 0 then 3 else 2) → wX_quantise_78 (fun r u' => wpY_quantise (fun r' v' => r' = r ∧ i_Rel (k + 5) u' v') (sI_ (P : Int), sI_ (mode : Int), fl, lo, ne', mr, co, ex, di) (sI_ (d : Int)) (sI_ (a : Int)) (sI_ e)) f (sL_ ((10 ^ P : Nat) : Int)) (sI_ (mode : Int)) fl (bI_ (decide (x < 0))) (sL_ (rq_ mode (decide (x < 0)) x.natAbs n false : Int)) (sI_ (p + n)) (bI_ false) (upd co d (sI_ (sg_ (decide (x < 0)) (rq_ mode (decide (x < 0)) x.natAbs n false)))) (upd ex d (sI_ e)) := by
        intro f hf
        unfold wX_quantise_78
        refine nm_e ?_
        dsimp only
        refine qy_low P mode hP hm hd ha cx ep hx0 hp he hn (by omega) (fun g => ?_)
        rw [← hf]
        generalize rq_ mode (decide (x < 0)) x.natAbs n false = M at *
        intro lo' n2 m2 d2
        have hno : ¬ (M ≠ 0 ∧ (e < -20 ∨ 20 < e)) := by omega
        have hcl : cl_ e = e := by unfold cl_; rw [if_neg (by omega), if_neg (by omega)]
        have hrs : rs_ (decide (x < 0)) M e f fl co ex d = (f, fl ||| f, upd co d (sI_ (sg_ (decide (x < 0)) M)), upd ex d (sI_ e)) := by
          unfold rs_
          rw [if_neg hno, hcl]
        rw [hrs]
        refine ⟨rfl, ⟨P, mode, _, _, _, _, _, _, _, _, _, _, _, rfl, rfl, hP, hm, RG_set hR ?_ hP.2 he⟩⟩
        generalize decide (x < 0) = ng
        cases ng
        · show ((M : Int)).natAbs < _; omega
        · show (-(M : Int)).natAbs < _; omega
      refine bI_br _ (fun z => fin 2 ?_) (fun z => fin 3 ?_)
      · rw [if_neg (of_decide_eq_false z)]
      · rw [if_pos (of_decide_eq_true z)]
end
section
theorem i_vc_flags {k : Nat} {u : SX} {v : SY} (I : i_Rel k u v) (hk : k + 5 ≤ 2561) : wpX_flags (fun r => wpY_flags (fun r' => r' = r ∧ i_Rel (k + 5) u v) v) u := by
  have I' := i_up I
  obtain ⟨P, mode, fl, co, ex, ne, ma, sc, ta, lo, ne', mr, di, rfl, rfl, hP, hm, hR⟩ := I
  exact ⟨rfl, I'⟩
theorem i_vc_lower {k : Nat} {u : SX} {v : SY} (I : i_Rel k u v) (hk : k + 5 ≤ 2561) : wpX_lower (fun r u' => wpY_lower (fun r' v' => r' = r ∧ i_Rel (k + 5) u' v') v) u := by
  obtain ⟨P, mode, fl, co, ex, ne, ma, sc, ta, lo, ne', mr, di, rfl, rfl, hP, hm, hR⟩ := I
  exact ⟨rfl, ⟨P, mode, 0, co, ex, ne, ma, sc, ta, lo, ne', mr, di, rfl, rfl, hP, hm, hR⟩⟩
end
