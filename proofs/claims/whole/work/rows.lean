section
/-- signed numbers as the machine holds them -/
def sI_ (z : Int) : Int32 := Int32.ofInt z
def sL_ (z : Int) : Int64 := Int64.ofInt z
theorem sI_t {z : Int} (h1 : -2147483648 ≤ z) (h2 : z < 2147483648) : (sI_ z).toInt = z := Int32.toInt_ofInt_of_le (by omega) (by omega)
theorem sL_t {z : Int} (h1 : -9223372036854775808 ≤ z) (h2 : z < 9223372036854775808) : (sL_ z).toInt = z := Int64.toInt_ofInt_of_le (by omega) (by omega)
theorem sI_nat (n : Nat) : sI_ (n : Int) = nI n := Int32.ofInt_eq_ofNat
theorem sL_nat (n : Nat) : sL_ (n : Int) = lN n := Int64.ofInt_eq_ofNat
theorem sI_self (x : Int32) : sI_ x.toInt = x := Int32.ofInt_toInt x
theorem sL_self (x : Int64) : sL_ x.toInt = x := Int64.ofInt_toInt x
theorem sI_add (a b : Int) : sI_ a + sI_ b = sI_ (a + b) := (Int32.ofInt_add a b).symm
theorem sI_sub (a b : Int) : sI_ a - sI_ b = sI_ (a - b) := (Int32.ofInt_sub a b).symm
theorem sI_mul (a b : Int) : sI_ a * sI_ b = sI_ (a * b) := (Int32.ofInt_mul a b).symm
theorem sI_neg (a : Int) : -sI_ a = sI_ (-a) := (Int32.ofInt_neg a).symm
theorem sL_add (a b : Int) : sL_ a + sL_ b = sL_ (a + b) := (Int64.ofInt_add a b).symm
theorem sL_sub (a b : Int) : sL_ a - sL_ b = sL_ (a - b) := (Int64.ofInt_sub a b).symm
theorem sL_mul (a b : Int) : sL_ a * sL_ b = sL_ (a * b) := (Int64.ofInt_mul a b).symm
theorem sL_neg (a : Int) : -sL_ a = sL_ (-a) := (Int64.ofInt_neg a).symm
theorem sL_i (a : Int) : (sL_ a).toInt32 = sI_ a := Int64.toInt32_ofInt
theorem sI_l {a : Int} (h1 : -2147483648 ≤ a) (h2 : a < 2147483648) : (sI_ a).toInt64 = sL_ a := by
  apply Int64.toInt_inj.1
  rw [Int32.toInt_toInt64, sI_t h1 h2, sL_t (by omega) (by omega)]
theorem sI_tl (x : Int32) : x.toInt64 = sL_ x.toInt := (Int64.ofInt_int32ToInt x).symm
theorem sI_leI {a b : Int} (ha : -2147483648 ≤ a ∧ a < 2147483648) (hb : -2147483648 ≤ b ∧ b < 2147483648) : sI_ a ≤ sI_ b ↔ a ≤ b := by
  rw [Int32.le_iff_toInt_le, sI_t ha.1 ha.2, sI_t hb.1 hb.2]
theorem sI_ltI {a b : Int} (ha : -2147483648 ≤ a ∧ a < 2147483648) (hb : -2147483648 ≤ b ∧ b < 2147483648) : sI_ a < sI_ b ↔ a < b := by
  rw [Int32.lt_iff_toInt_lt, sI_t ha.1 ha.2, sI_t hb.1 hb.2]
theorem sI_eqI {a b : Int} (ha : -2147483648 ≤ a ∧ a < 2147483648) (hb : -2147483648 ≤ b ∧ b < 2147483648) : sI_ a = sI_ b ↔ a = b := by
  rw [← Int32.toInt_inj, sI_t ha.1 ha.2, sI_t hb.1 hb.2]
theorem sL_leI {a b : Int} (ha : -9223372036854775808 ≤ a ∧ a < 9223372036854775808) (hb : -9223372036854775808 ≤ b ∧ b < 9223372036854775808) : sL_ a ≤ sL_ b ↔ a ≤ b := by
  rw [Int64.le_iff_toInt_le, sL_t ha.1 ha.2, sL_t hb.1 hb.2]
theorem sL_ltI {a b : Int} (ha : -9223372036854775808 ≤ a ∧ a < 9223372036854775808) (hb : -9223372036854775808 ≤ b ∧ b < 9223372036854775808) : sL_ a < sL_ b ↔ a < b := by
  rw [Int64.lt_iff_toInt_lt, sL_t ha.1 ha.2, sL_t hb.1 hb.2]
theorem sL_eqI {a b : Int} (ha : -9223372036854775808 ≤ a ∧ a < 9223372036854775808) (hb : -9223372036854775808 ≤ b ∧ b < 9223372036854775808) : sL_ a = sL_ b ↔ a = b := by
  rw [← Int64.toInt_inj, sL_t ha.1 ha.2, sL_t hb.1 hb.2]
theorem sI_tdR (a b : Int) : -(a.natAbs : Int) ≤ a.tdiv b ∧ a.tdiv b ≤ a.natAbs := by
  have h := Int.natAbs_tdiv_le_natAbs a b
  omega
theorem sI_div {a b : Int} (ha : -2147483648 < a ∧ a < 2147483648) (hb : 0 < b ∧ b < 2147483648) : sI_ a / sI_ b = sI_ (a.tdiv b) := by
  have hr := sI_tdR a b
  apply Int32.toInt_inj.1
  rw [Int32.toInt_div_of_ne_right, sI_t (by omega) (by omega), sI_t (by omega) (by omega), sI_t (by omega) (by omega)]
  intro h
  have e : (sI_ b).toInt = -1 := by rw [h]; decide
  rw [sI_t (by omega) (by omega)] at e
  omega
theorem sL_div {a b : Int} (ha : -9223372036854775808 < a ∧ a < 9223372036854775808) (hb : 0 < b ∧ b < 9223372036854775808) : sL_ a / sL_ b = sL_ (a.tdiv b) := by
  have hr := sI_tdR a b
  apply Int64.toInt_inj.1
  rw [Int64.toInt_div_of_ne_right, sL_t (by omega) (by omega), sL_t (by omega) (by omega), sL_t (by omega) (by omega)]
  intro h
  have e : (sL_ b).toInt = -1 := by rw [h]; decide
  rw [sL_t (by omega) (by omega)] at e
  omega
theorem sL_rem {a b : Int} (ha : -9223372036854775808 < a ∧ a < 9223372036854775808) (hb : 0 < b ∧ b < 9223372036854775808) : sL_ a - sL_ a / sL_ b * sL_ b = sL_ (a.tmod b) := by
  rw [sL_div ha hb, sL_mul, sL_sub, Int.tmod_def, Int.mul_comm b]
theorem sI_rem {a b : Int} (ha : -2147483648 < a ∧ a < 2147483648) (hb : 0 < b ∧ b < 2147483648) : sI_ a - sI_ a / sI_ b * sI_ b = sI_ (a.tmod b) := by
  rw [sI_div ha hb, sI_mul, sI_sub, Int.tmod_def, Int.mul_comm b]
theorem sI_cl {a : Nat} (h : a < 2147483648) : (sI_ (a : Int)).toNatClampNeg = a := by
  rw [sI_nat]; exact nI_clamp (by omega)
theorem sI_in {a n : Nat} (h : a < n) (hn : n < 2147483648) : vp_in (sI_ (a : Int)) n := by
  rw [sI_nat]; exact vp_in_nI h (by omega)
theorem sI_bLe {x y : Int32} {A B : Prop} (a b : Int) (f : a ≤ b → A) (g : b < a → B) (hx : x = sI_ a := by rfl) (hy : y = sI_ b := by rfl) (ha : -2147483648 ≤ a ∧ a < 2147483648 := by omega) (hb : -2147483648 ≤ b ∧ b < 2147483648 := by omega) : (x ≤ y → A) ∧ (¬ x ≤ y → B) := by
  subst hx hy
  rw [sI_leI ha hb]
  exact ⟨f, fun h => g (by omega)⟩
theorem sI_bLt {x y : Int32} {A B : Prop} (a b : Int) (f : a < b → A) (g : b ≤ a → B) (hx : x = sI_ a := by rfl) (hy : y = sI_ b := by rfl) (ha : -2147483648 ≤ a ∧ a < 2147483648 := by omega) (hb : -2147483648 ≤ b ∧ b < 2147483648 := by omega) : (x < y → A) ∧ (¬ x < y → B) := by
  subst hx hy
  rw [sI_ltI ha hb]
  exact ⟨f, fun h => g (by omega)⟩
theorem sI_bEq {x y : Int32} {A B : Prop} (a b : Int) (f : a = b → A) (g : a ≠ b → B) (hx : x = sI_ a := by rfl) (hy : y = sI_ b := by rfl) (ha : -2147483648 ≤ a ∧ a < 2147483648 := by omega) (hb : -2147483648 ≤ b ∧ b < 2147483648 := by omega) : (x = y → A) ∧ (¬ x = y → B) := by
  subst hx hy
  rw [sI_eqI ha hb]
  exact ⟨f, g⟩
theorem sL_bLe {x y : Int64} {A B : Prop} (a b : Int) (f : a ≤ b → A) (g : b < a → B) (hx : x = sL_ a := by rfl) (hy : y = sL_ b := by rfl) (ha : -9223372036854775808 ≤ a ∧ a < 9223372036854775808 := by omega) (hb : -9223372036854775808 ≤ b ∧ b < 9223372036854775808 := by omega) : (x ≤ y → A) ∧ (¬ x ≤ y → B) := by
  subst hx hy
  rw [sL_leI ha hb]
  exact ⟨f, fun h => g (by omega)⟩
theorem sL_bLt {x y : Int64} {A B : Prop} (a b : Int) (f : a < b → A) (g : b ≤ a → B) (hx : x = sL_ a := by rfl) (hy : y = sL_ b := by rfl) (ha : -9223372036854775808 ≤ a ∧ a < 9223372036854775808 := by omega) (hb : -9223372036854775808 ≤ b ∧ b < 9223372036854775808 := by omega) : (x < y → A) ∧ (¬ x < y → B) := by
  subst hx hy
  rw [sL_ltI ha hb]
  exact ⟨f, fun h => g (by omega)⟩
theorem sL_bEq {x y : Int64} {A B : Prop} (a b : Int) (f : a = b → A) (g : a ≠ b → B) (hx : x = sL_ a := by rfl) (hy : y = sL_ b := by rfl) (ha : -9223372036854775808 ≤ a ∧ a < 9223372036854775808 := by omega) (hb : -9223372036854775808 ≤ b ∧ b < 9223372036854775808 := by omega) : (x = y → A) ∧ (¬ x = y → B) := by
  subst hx hy
  rw [sL_eqI ha hb]
  exact ⟨f, g⟩
theorem sL_n0 {a : Int} (h : a ≠ 0) (ha : -9223372036854775808 ≤ a ∧ a < 9223372036854775808) : ¬ sL_ a = 0 := by
  intro e
  exact h ((sL_eqI (b := 0) ha (by omega)).1 e)
theorem sL_10 : ¬ (10 : Int64) = 0 := by decide
theorem sL_2 : ¬ (2 : Int64) = 0 := by decide
theorem sI_10 : ¬ (10 : Int32) = 0 := by decide
/-- a boolean as a field holds it -/
def bI_ (b : Bool) : Int32 := sI_ (if b then 1 else 0)
theorem bI_t : bI_ true = 1 := rfl
theorem bI_f : bI_ false = 0 := rfl
theorem bI_n (b : Bool) : narrow .boolean (.int (bI_ b)) = .int (bI_ b) := by cases b <;> rfl
theorem bI_fit (b : Bool) : fits .boolean (.int (bI_ b)) = true := by cases b <;> rfl
theorem bI_br {A B : Prop} (b : Bool) (f : b = false → A) (g : b = true → B) : (bI_ b = 0 → A) ∧ (¬ bI_ b = 0 → B) := by
  cases b
  · exact ⟨fun _ => f rfl, fun h => absurd rfl h⟩
  · exact ⟨fun h => absurd h (by decide), fun _ => g rfl⟩
theorem sI_lit18 : (18 : Int32) = sI_ 18 := by rfl
theorem sI_litm20 : (-20 : Int32) = sI_ (-20) := by rfl
theorem sL_lit17 : (100000000000000000 : Int64) = sL_ 100000000000000000 := by rfl
theorem sL_litm17 : (-100000000000000000 : Int64) = sL_ (-100000000000000000) := by rfl
theorem sL_rem10 {a : Int} (ha : -9223372036854775808 < a ∧ a < 9223372036854775808) : sL_ a - sL_ a / 10 * 10 = sL_ (a.tmod 10) := sL_rem (b := 10) ha (by omega)
theorem sL_div10 {a : Int} (ha : -9223372036854775808 < a ∧ a < 9223372036854775808) : sL_ a / 10 = sL_ (a.tdiv 10) := sL_div (b := 10) ha (by omega)
theorem sL_rem2 {a : Int} (ha : -9223372036854775808 < a ∧ a < 9223372036854775808) : sL_ a - sL_ a / 2 * 2 = sL_ (a.tmod 2) := sL_rem (b := 2) ha (by omega)
theorem sI_rem10 {a : Int} (ha : -2147483648 < a ∧ a < 2147483648) : sI_ a - sI_ a / 10 * 10 = sI_ (a.tmod 10) := sI_rem (b := 10) ha (by omega)
theorem sI_div10 {a : Int} (ha : -2147483648 < a ∧ a < 2147483648) : sI_ a / 10 = sI_ (a.tdiv 10) := sI_div (b := 10) ha (by omega)
end
section
/-- the value of the first n cells, read as digits -/
def dv_ (d : Nat → Int32) : Nat → Int
  | 0 => 0
  | n + 1 => dv_ d n + (d n).toInt * 10 ^ n
theorem dv_s (d : Nat → Int32) (n : Nat) : dv_ d (n + 1) = dv_ d n + (d n).toInt * 10 ^ n := rfl
theorem dv_us (f : Nat → Int32) (k : Nat) (x : Int32) : upd f k x k = x := if_pos rfl
theorem dv_un (f : Nat → Int32) {k j : Nat} (x : Int32) (h : j ≠ k) : upd f k x j = f j := if_neg h
theorem dv_ext {d e : Nat → Int32} : ∀ {n : Nat}, (∀ i, i < n → d i = e i) → dv_ d n = dv_ e n
  | 0, _ => rfl
  | n + 1, h => by rw [dv_s, dv_s, dv_ext (fun i hi => h i (by omega)), h n (by omega)]
theorem dv_uge (d : Nat → Int32) {n k : Nat} (x : Int32) (h : n ≤ k) : dv_ (upd d k x) n = dv_ d n :=
  dv_ext fun i hi => dv_un d x (by omega)
theorem dv_ult (d : Nat → Int32) {k : Nat} (x : Int32) : ∀ {n : Nat}, k < n → dv_ (upd d k x) n = dv_ d n + (x.toInt - (d k).toInt) * 10 ^ k
  | 0, h => by omega
  | n + 1, h => by
    by_cases e : k = n
    · subst e
      rw [dv_s, dv_s, dv_uge d x (Nat.le_refl k), dv_us]
      grind
    · rw [dv_s, dv_s, dv_ult d x (n := n) (by omega), dv_un d x (by omega)]
      grind
theorem dv_0 {d : Nat → Int32} : ∀ {n : Nat}, (∀ i, i < n → d i = 0) → dv_ d n = 0
  | 0, _ => rfl
  | n + 1, h => by
    rw [dv_s, dv_0 (fun i hi => h i (by omega)), h n (by omega)]
    rw [Int32.toInt_zero]; omega
theorem tp_ (n : Nat) : (0 : Int) < 10 ^ n := Int.pow_pos (by decide)
theorem tn_ (n : Nat) : 0 < 10 ^ n := Nat.pow_pos (by decide)
theorem tc_ (n : Nat) : ((10 ^ n : Nat) : Int) = 10 ^ n := by rw [Int.natCast_pow]; rfl
theorem dv_rng {d : Nat → Int32} : ∀ {n : Nat}, (∀ i, i < n → 0 ≤ (d i).toInt ∧ (d i).toInt ≤ 9) → 0 ≤ dv_ d n ∧ dv_ d n < 10 ^ n
  | 0, _ => by rw [show dv_ d 0 = 0 from rfl]; omega
  | n + 1, h => by
    have ⟨a, b⟩ := dv_rng (n := n) (fun i hi => h i (by omega))
    have ⟨p, q⟩ := h n (by omega)
    have t := tp_ n
    rw [dv_s, Int.pow_succ]
    have u := Int.mul_le_mul_of_nonneg_right q (Int.le_of_lt t)
    have w := Int.mul_nonneg p (Int.le_of_lt t)
    generalize (d n).toInt * 10 ^ n = z at *
    generalize (10 : Int) ^ n = T at *
    omega
/-- digit i of a number -/
theorem dd_low {A D n i : Nat} (h : i < n) : (A + D * 10 ^ n) / 10 ^ i % 10 = A / 10 ^ i % 10 := by
  obtain ⟨m, rfl⟩ : ∃ m, n = i + (m + 1) := ⟨n - i - 1, by omega⟩
  have e : D * 10 ^ (i + (m + 1)) = 10 ^ i * (10 * (D * 10 ^ m)) := by grind
  rw [e, Nat.add_mul_div_left _ _ (tn_ i)]
  omega
theorem dd_top {A D n : Nat} (h : A < 10 ^ n) : (A + D * 10 ^ n) / 10 ^ n = D := by
  rw [Nat.add_mul_div_right _ _ (tn_ n), Nat.div_eq_of_lt h]; omega
theorem dv_dig {d : Nat → Int32} : ∀ {n : Nat} {M : Nat}, (∀ i, i < n → 0 ≤ (d i).toInt ∧ (d i).toInt ≤ 9) → dv_ d n = (M : Int) → ∀ i, i < n → (d i).toInt = ((M / 10 ^ i % 10 : Nat) : Int)
  | 0, _, _, _ => fun i hi => by omega
  | n + 1, M, h, hv => fun i hi => by
    have hh : ∀ i, i < n → 0 ≤ (d i).toInt ∧ (d i).toInt ≤ 9 := fun i hi => h i (by omega)
    have ⟨a, b⟩ := dv_rng hh
    have ⟨p, q⟩ := h n (by omega)
    obtain ⟨A, hA⟩ := Int.eq_ofNat_of_zero_le a
    obtain ⟨D, hD⟩ := Int.eq_ofNat_of_zero_le p
    have e : M = A + D * 10 ^ n := by
      rw [dv_s, hA, hD] at hv
      have := tc_ n
      rw [← this] at hv
      exact_mod_cast hv.symm
    have hA' : A < 10 ^ n := by
      rw [hA, ← tc_ n] at b
      exact_mod_cast b
    have hD' : D < 10 := by omega
    by_cases c : i = n
    · subst c
      rw [e, dd_top hA', hD, Nat.mod_eq_of_lt hD']
    · rw [e, dd_low (by omega)]
      exact dv_dig hh hA i (by omega)
/-- the cells hold the digits of M -/
def dg_ (d : Nat → Int32) (M : Nat) : Prop := ∀ i, i < 128 → d i = sI_ ((M / 10 ^ i % 10 : Nat) : Int)
theorem dg_of {d : Nat → Int32} {M : Nat} (h : ∀ i, i < 128 → 0 ≤ (d i).toInt ∧ (d i).toInt ≤ 9) (e : dv_ d 128 = (M : Int)) : dg_ d M := by
  intro i hi
  rw [← dv_dig h e i hi, sI_self]
theorem dd_s (M i : Nat) : M / 10 ^ i = M / 10 ^ (i + 1) * 10 + M / 10 ^ i % 10 := by
  rw [Nat.pow_succ, ← Nat.div_div_eq_div_mul]; omega
theorem dd_m (M i : Nat) : M % 10 ^ (i + 1) = M % 10 ^ i + 10 ^ i * (M / 10 ^ i % 10) := by
  rw [Nat.pow_succ, Nat.mod_mul]
theorem dd_le {a b : Nat} (h : a ≤ b) : 10 ^ a ≤ 10 ^ b := Nat.pow_le_pow_right (by decide) h
theorem dd_lt {a b : Nat} (h : a < b) : 10 ^ a < 10 ^ b := Nat.pow_lt_pow_right (by decide) h
theorem dd_rv {a b : Nat} (h : 10 ^ a < 10 ^ b) : a < b := by
  by_cases c : a < b
  · exact c
  · have := dd_le (a := b) (b := a) (by omega); omega
end
section
/-- Y: begin, put, tidy -/
theorem ya_begin1 (post : SY → Prop) (w pr mo fl lo ne mr : Int32) (co ex : Nat → Int32)
    (h : ∀ di' : Nat → Int32, (∀ i, i < 128 → di' i = 0) → post (pr, mo, fl, w, 0, 0, co, ex, di')) :
    ∀ (d j : Nat) (di : Nat → Int32), j + d = 128 → (∀ i, i < j → di i = 0) → wY_begin_2 post w pr mo fl lo ne mr (d + 1) (sI_ (j : Int)) co ex di := by
  intro d
  induction d with
  | zero =>
    intro j di hj hd
    exact sI_bLe 128 j (fun _ => h di (fun i hi => hd i (by omega))) (fun hh => by omega)
  | succ d ih =>
    intro j di hj hd
    refine sI_bLe 128 j (fun hh => by omega) (fun hh => ⟨sI_in (by omega) (by omega), nm_e (nm_r (sI_add j 1) ?_)⟩)
    rw [sI_cl (by omega)]
    refine ih (j + 1) _ (by omega) (fun i hi => ?_)
    by_cases c : i = j
    · subst c; exact dv_us _ _ _
    · rw [dv_un _ _ c]; exact hd i (by omega)
theorem ya_begin {post : SY → Prop} {w pr mo fl lo ne mr : Int32} {co ex di : Nat → Int32}
    (h : ∀ di' : Nat → Int32, (∀ i, i < 128 → di' i = 0) → post (pr, mo, fl, w, 0, 0, co, ex, di')) :
    wpY_begin post (pr, mo, fl, lo, ne, mr, co, ex, di) w :=
  ⟨129, ya_begin1 post w pr mo fl lo ne mr co ex h 128 0 di rfl (fun i hi => by omega)⟩
theorem ya_td10 (v : Int) : v = v.tdiv 10 * 10 + v.tmod 10 := (Int.tdiv_mul_add_tmod v 10).symm
theorem ya_tm10 (v : Int) : -9 ≤ v.tmod 10 ∧ v.tmod 10 ≤ 9 := by
  have h : (v.tmod 10).natAbs < 10 := by
    rw [Int.natAbs_tmod]; exact Nat.mod_lt _ (by decide)
  omega
theorem ya_put1 (post : SY → Prop) (pr mo fl lo ne mr : Int32) (co ex : Nat → Int32) (B : Int) (hB : B ≤ 1000) :
    ∀ (d : Nat) (v : Int) (j : Nat) (di : Nat → Int32), v.natAbs < 10 ^ d → d ≤ 18 → j + d ≤ 128 →
    (∀ i, i < j → i < 128 → -B - 9 ≤ (di i).toInt ∧ (di i).toInt ≤ B + 9) → (∀ i, j ≤ i → i < 128 → -B ≤ (di i).toInt ∧ (di i).toInt ≤ B) → 
    (∀ di' : Nat → Int32, (∀ i, i < 128 → -B - 9 ≤ (di' i).toInt ∧ (di' i).toInt ≤ B + 9) → dv_ di' 128 = dv_ di 128 + v * 10 ^ j → (∀ i, i < j → di' i = di i) → post (pr, mo, fl, lo, ne, mr, co, ex, di')) →
    wY_put_11 post pr mo fl lo ne mr (d + 1) (sL_ v) (sI_ (j : Int)) co ex di := by
  intro d
  induction d with
  | zero =>
    intro v j di hv _ hj hl hh h
    have v0 : v = 0 := by omega
    subst v0
    have k : post (pr, mo, fl, lo, ne, mr, co, ex, di) := h di (fun i hi => by
      by_cases c : i < j
      · exact hl i c hi
      · have := hh i (by omega) hi; omega) (by omega) (fun _ _ => rfl)
    exact sI_bLt j 0 (fun _ => k) (fun _ => sI_bLe 128 j (fun _ => k) (fun _ => sL_bEq 0 0 (fun _ => k) (fun e => absurd rfl e)))
  | succ d ih =>
    intro v j di hv hd hj hl hh h
    have hp : 10 ^ (d + 1) ≤ 10 ^ 18 := dd_le (by omega)
    have hj0 := hh j (Nat.le_refl j) (by omega)
    have hm := ya_tm10 v
    have hq := ya_td10 v
    refine sI_bLt j 0 (fun _ => by omega) (fun _ => sI_bLe 128 j (fun _ => by omega) (fun _ => sL_bEq v 0 (fun e => ?_) (fun e => ?_)))
    · subst e
      exact h di (fun i hi => by
        by_cases c : i < j
        · exact hl i c hi
        · have := hh i (by omega) hi; omega) (by omega) (fun _ _ => rfl)
    · refine ⟨sI_in (by omega) (by omega), sL_10, sI_in (by omega) (by omega), nm_e ⟨sL_10, nm_r (sL_div10 (a := v) (by omega)) (nm_r (sI_add j 1) ?_)⟩⟩
      rw [sL_rem10 (by omega), sL_i, sI_cl (by omega)]
      have hx : ((di j) + sI_ (v.tmod 10)).toInt = (di j).toInt + v.tmod 10 := by
        conv => lhs; rw [← sI_self (di j), sI_add]
        exact sI_t (by omega) (by omega)
      refine ih (v.tdiv 10) (j + 1) _ ?_ (by omega) (by omega) ?_ ?_ ?_
      · rw [Int.natAbs_tdiv]
        rw [Nat.pow_succ] at hv
        exact Nat.div_lt_of_lt_mul (by rw [Nat.mul_comm]; exact hv)
      · intro i hi hi2
        by_cases c : i = j
        · subst c; rw [dv_us, hx]; omega
        · rw [dv_un _ _ c]; exact hl i (by omega) hi2
      · intro i hi hi2
        rw [dv_un _ _ (by omega)]; exact hh i (by omega) hi2
      · intro di' h1 h2 h3
        refine h di' h1 ?_ (fun i hi => ?_)
        · rw [h2, dv_ult _ _ (by omega), hx]
          have : v * 10 ^ j = (v.tdiv 10 * 10 + v.tmod 10) * 10 ^ j := by rw [← hq]
          grind
        · rw [h3 i (by omega), dv_un _ _ (by omega)]
theorem ya_put {post : SY → Prop} {pr mo fl lo ne mr x y : Int32} {co ex di : Nat → Int32} {z : Int64} (B : Int) (d : Nat) (v : Int) (j : Nat)
    (h : ∀ di' : Nat → Int32, (∀ i, i < 128 → -B - 9 ≤ (di' i).toInt ∧ (di' i).toInt ≤ B + 9) → dv_ di' 128 = dv_ di 128 + v * 10 ^ j → (∀ i, i < j → di' i = di i) → post (pr, mo, fl, lo, ne, mr, co, ex, di'))
    (hz : z = sL_ v) (hx : x - lo = sI_ (j : Int)) (hv : v.natAbs < 10 ^ d) (hd : d ≤ 18) (hj : j + d ≤ 128)
    (hB : 0 ≤ B ∧ B ≤ 1000) (hh : ∀ i, i < 128 → -B ≤ (di i).toInt ∧ (di i).toInt ≤ B) :
    wpY_put post (pr, mo, fl, lo, ne, mr, co, ex, di) z x := by
  subst hz
  refine nm_r hx ⟨d + 1, ya_put1 post pr mo fl lo ne mr co ex B hB.2 d v j di hv hd hj (fun i _ hi => ?_) (fun i _ hi => hh i hi) h⟩
  have := hh i hi; omega
end
section
theorem zz_last : True := trivial
end
