/-- both sides finish: the same answer, related states again -/
theorem bf_rel {P mode k : Nat} {neg : Bool} {c d : Nat} {e : Int} {f fl : Int32} {co ex : Nat → Int32} (hP : 3 ≤ P ∧ P ≤ 7) (hm : mode ≤ 6) (hR : RG_ P co ex) (hc : c < 10 ^ P)
    (ne : Int32) (ma : Int64) (sc ta lo ne' mr : Int32) (di : Nat → Int32) :
    i_Rel k (sL_ ((10 ^ P : Nat) : Int), sI_ (mode : Int), (rs_ neg c e f fl co ex d).2.1, ne, ma, sc, ta, (rs_ neg c e f fl co ex d).2.2.1, (rs_ neg c e f fl co ex d).2.2.2)
      (sI_ (P : Int), sI_ (mode : Int), (rs_ neg c e f fl co ex d).2.1, lo, ne', mr, (rs_ neg c e f fl co ex d).2.2.1, (rs_ neg c e f fl co ex d).2.2.2, di) := by
  refine ⟨P, mode, _, _, _, ne, ma, sc, ta, lo, ne', mr, di, rfl, rfl, hP, hm, ?_⟩
  unfold rs_
  by_cases z : c ≠ 0 ∧ (e < -20 ∨ 20 < e)
  · rw [if_pos z]; exact hR
  · rw [if_neg z]
    refine RG_set hR ?_ hP.2 ?_
    · cases neg
      · show ((c : Int)).natAbs < _; omega
      · show (-(c : Int)).natAbs < _; omega
    · unfold cl_
      by_cases z1 : e < -20
      · rw [if_pos z1]; omega
      · rw [if_neg z1]
        by_cases z2 : 20 < e
        · rw [if_pos z2]; omega
        · rw [if_neg z2]; omega
theorem bf_K (m P : Nat) (hP : 3 ≤ P ∧ P ≤ 7) (hm : m < 9 * 10 ^ 18) : ∃ K : Nat, K ≤ 18 ∧ m / 10 ^ K < 10 ^ P ∧ (K = 0 ∨ 10 ^ P ≤ m / 10 ^ (K - 1)) := by
  have hp := yf_p hP
  have step : ∀ d : Nat, m / 10 ^ d < 10 ^ P → ∃ K : Nat, K ≤ d ∧ m / 10 ^ K < 10 ^ P ∧ (K = 0 ∨ 10 ^ P ≤ m / 10 ^ (K - 1)) := by
    intro d
    induction d with
    | zero => exact fun h => ⟨0, by omega, h, Or.inl rfl⟩
    | succ d ih =>
      intro h
      by_cases c : m / 10 ^ d < 10 ^ P
      · obtain ⟨K, h1, h2, h3⟩ := ih c
        exact ⟨K, by omega, h2, h3⟩
      · exact ⟨d + 1, by omega, h, Or.inr (by rw [Nat.add_sub_cancel]; omega)⟩
  exact step 18 (by
    have : m / 10 ^ 18 < 9 := by rw [Nat.div_lt_iff_lt_mul (tn_ 18)]; exact hm
    omega)
theorem bf_c {P mode : Nat} {neg tail : Bool} {m K : Nat} (hP : 3 ≤ P ∧ P ≤ 7) (h : m / 10 ^ K < 10 ^ P) : rc_ P (rq_ mode neg m K tail) < 10 ^ P := by
  have hr := xf_rq mode neg m K tail
  have hp := yf_p hP
  unfold rc_
  generalize rq_ mode neg m K tail = r at *
  by_cases c : 10 ^ P ≤ r
  · rw [if_pos c]; omega
  · rw [if_neg c]; omega
theorem bf_fin {post : Int32 → SX → Prop} {fl : Int32} {co ex : Nat → Int32} (WY : (Int32 → SY → Prop) → Prop) (k P mode d m j : Nat) (ng neg more tail : Bool) (lo w s V : Int)
    (hP : 3 ≤ P ∧ P ≤ 7) (hm : mode ≤ 6) (hR : RG_ P co ex) (hd : d < 6) (hlo : -200 ≤ lo ∧ lo ≤ 200) (hw : -200 ≤ w ∧ w ≤ 200) (hj : j ≤ 400)
    (hV : V.natAbs < 10 ^ 128) (hmore : more = true → 10 ^ P ≤ V.natAbs)
    (hmm : m < 9 * 10 ^ 18) (hmV : V.natAbs / 10 ^ j = m) (hm0 : m = 0 → V = 0) (hng : neg = (ng || decide (V < 0))) (ht : tail = (more || decide (V.natAbs % 10 ^ j ≠ 0))) (hs : s = lo + j)
    (htl : tail = true → 10 ^ P ≤ m) (hww : tail = false → (w ≤ s ∧ (m < 10 ^ P → s = w)) ∨ (s < w ∧ m % 10 ≠ 0))
    (hpost : ∀ r a1 a2 a3 a4 a5 a6 a7 a8 a9, WY (fun r' v' => r' = r ∧ i_Rel k (a1, a2, a3, a4, a5, a6, a7, a8, a9) v') → post r (a1, a2, a3, a4, a5, a6, a7, a8, a9))
    (hWY : ∀ q : Int32 → SY → Prop, (∀ (q' : Int32 → SY → Prop) (di : Nat → Int32), (∀ r a1 a2 a3 a4 a5 a6 a7 a8 a9, q r (a1, a2, a3, a4, a5, a6, a7, a8, a9) → q' r (a1, a2, a3, a4, a5, a6, a7, a8, a9)) →
      dv_ di 128 = V → (∀ i, i < 128 → -50 ≤ (di i).toInt ∧ (di i).toInt ≤ 50) → wpY_finish q' (sI_ (P : Int), sI_ (mode : Int), fl, sI_ lo, bI_ ng, bI_ more, co, ex, di) (sI_ (d : Int)) (sI_ w)) → WY q) :
    wpX_finish post (sL_ ((10 ^ P : Nat) : Int), sI_ (mode : Int), fl, bI_ neg, sL_ (m : Int), sI_ s, bI_ tail, co, ex) (sI_ (d : Int)) (sI_ w) := by
  have hp := yf_p hP
  by_cases z : m = 0
  · have V0 := hm0 z
    subst z V0
    refine xf_fin0 neg w d hd (by omega) (fun ne ma sc ta => hpost _ _ _ _ _ _ _ _ _ _ (hWY _ (fun q' di hq h1 h2 => ?_)))
    refine yf_finish P mode ng more lo w d 0 hP hm hd hlo hw h1 hV h2 hmore (fun c e f hf => ?_)
    rw [← hng] at hf ⊢
    have hf' : c = 0 ∧ e = w ∧ f = 0 := by
      rcases hf with hf | hf | hf
      · exact hf.2
      · obtain ⟨t, b, g1, -⟩ := hf
        have := tn_ t
        omega
      · obtain ⟨t, g1, -⟩ := hf
        have := tn_ t
        omega
    obtain ⟨rfl, rfl, rfl⟩ := hf'
    exact fun lo' ne' mr di' => hq _ _ _ _ _ _ _ _ _ _ ⟨rfl, bf_rel hP hm hR (by omega) _ _ _ _ _ _ _ _⟩
  · obtain ⟨K, k1, k2, k3⟩ := bf_K m P hP hmm
    refine xf_fin P mode neg tail m s w K d hP hm hd (by omega) (by omega) k1 hmm z k2 k3 (fun ne ma sc ta => hpost _ _ _ _ _ _ _ _ _ _ (hWY _ (fun q' di hq h1 h2 => ?_)))
    refine yf_finish P mode ng more lo w d V hP hm hd hlo hw h1 hV h2 hmore (fun c e f hf => ?_)
    rw [← hng] at hf ⊢
    obtain ⟨rfl, rfl, rfl⟩ := mm_fin hP hmV z ht hs k2 k3 htl hww hf
    exact fun lo' ne' mr di' => hq _ _ _ _ _ _ _ _ _ _ ⟨rfl, bf_rel hP hm hR (bf_c hP k2) _ _ _ _ _ _ _ _⟩
/-- sums stay within the cells -/
theorem bf_sum {x y : Int} {i j : Nat} (hx : x.natAbs < 10 ^ 15) (hy : y.natAbs < 10 ^ 15) (hi : i ≤ 100) (hj : j ≤ 100) : (x * 10 ^ i + y * 10 ^ j).natAbs < 10 ^ 128 := by
  have a : (x * 10 ^ i).natAbs ≤ 10 ^ 15 * 10 ^ 100 := by
    rw [Int.natAbs_mul, Int.natAbs_pow]
    exact Nat.mul_le_mul (by omega) (dd_le hi)
  have b : (y * 10 ^ j).natAbs ≤ 10 ^ 15 * 10 ^ 100 := by
    rw [Int.natAbs_mul, Int.natAbs_pow]
    exact Nat.mul_le_mul (by omega) (dd_le hj)
  have c := Int.natAbs_add_le (x * 10 ^ i) (y * 10 ^ j)
  omega
theorem bf_0 {di : Nat → Int32} (h : ∀ i, i < 128 → di i = 0) : ∀ i, i < 128 → -(0 : Int) ≤ (di i).toInt ∧ (di i).toInt ≤ 0 := by
  intro i hi
  rw [h i hi, Int32.toInt_zero]
  omega
theorem bf_p1 {K : SY → Prop} {pr mo fl : Int32} {co ex d1 : Nat → Int32} (x p lo : Int) (h1 : ∀ i, i < 128 → d1 i = 0) (hx : x.natAbs < 10 ^ 15) (hp : 0 ≤ p - lo ∧ p - lo ≤ 100)
    (h : ∀ d2, dv_ d2 128 = x * 10 ^ (p - lo).toNat → (∀ i, i < 128 → -9 ≤ (d2 i).toInt ∧ (d2 i).toInt ≤ 9) → (∀ i, i < (p - lo).toNat → d2 i = 0) → K (pr, mo, fl, sI_ lo, 0, 0, co, ex, d2)) :
    wpY_put K (pr, mo, fl, sI_ lo, 0, 0, co, ex, d1) (sL_ x) (sI_ p) := by
  refine ya_put 0 15 x (p - lo).toNat (fun d2 h2 h3 h4 => h d2 ?_ ?_ ?_) rfl (by rw [sI_sub]; congr 1; omega) (by omega) (by omega) (by omega) (by omega) (bf_0 h1)
  · rw [h3, dv_0 h1, Int.zero_add]
  · intro i hi
    have := h2 i hi
    omega
  · intro i hi
    rw [h4 i hi]
    exact h1 i (by omega)
theorem bf_p2 {K : SY → Prop} {pr mo fl : Int32} {co ex d2 : Nat → Int32} (A y q lo : Int) (h1 : dv_ d2 128 = A) (h2 : ∀ i, i < 128 → -9 ≤ (d2 i).toInt ∧ (d2 i).toInt ≤ 9) (hy : y.natAbs < 10 ^ 15) (hq : 0 ≤ q - lo ∧ q - lo ≤ 100)
    (h : ∀ d3, dv_ d3 128 = A + y * 10 ^ (q - lo).toNat → (∀ i, i < 128 → -50 ≤ (d3 i).toInt ∧ (d3 i).toInt ≤ 50) → K (pr, mo, fl, sI_ lo, 0, 0, co, ex, d3)) :
    wpY_put K (pr, mo, fl, sI_ lo, 0, 0, co, ex, d2) (sL_ y) (sI_ q) := by
  refine ya_put 9 15 y (q - lo).toNat (fun d3 h4 h5 _ => h d3 ?_ ?_) rfl (by rw [sI_sub]; congr 1; omega) (by omega) (by omega) (by omega) (by omega) h2
  · rw [h5, h1]
  · intro i hi
    have := h4 i hi
    omega
/-- X: a sum, finished -/
theorem bf_hs {K : SX → Prop} {post : Int32 → SX → Prop} {fl ne sc ta : Int32} {ma : Int64} {co ex : Nat → Int32} (WY : (Int32 → SY → Prop) → Prop) (k P mode d : Nat) (x y p q lo T : Int)
    (hP : 3 ≤ P ∧ P ≤ 7) (hm : mode ≤ 6) (hR : RG_ P co ex) (hd : d < 6) (hx : x.natAbs < 10 ^ 15) (hy : y.natAbs < 10 ^ 15) (hp : -50 ≤ p ∧ p ≤ 50) (hq : -50 ≤ q ∧ q ≤ 50)
    (hlo : (p < q ∧ lo = p) ∨ (q ≤ p ∧ lo = q)) (hT : x * 10 ^ (p - lo).toNat + y * 10 ^ (q - lo).toNat = T)
    (hK : ∀ a1 a2 a3 a4 a5 a6 a7 a8 a9, wpX_finish post (a1, a2, a3, a4, a5, a6, a7, a8, a9) (sI_ (d : Int)) (sI_ lo) → K (a1, a2, a3, a4, a5, a6, a7, a8, a9))
    (hpost : ∀ r a1 a2 a3 a4 a5 a6 a7 a8 a9, WY (fun r' v' => r' = r ∧ i_Rel k (a1, a2, a3, a4, a5, a6, a7, a8, a9) v') → post r (a1, a2, a3, a4, a5, a6, a7, a8, a9))
    (hWY : ∀ q : Int32 → SY → Prop, (∀ (q' : Int32 → SY → Prop) (di : Nat → Int32), (∀ r a1 a2 a3 a4 a5 a6 a7 a8 a9, q r (a1, a2, a3, a4, a5, a6, a7, a8, a9) → q' r (a1, a2, a3, a4, a5, a6, a7, a8, a9)) →
      dv_ di 128 = T → (∀ i, i < 128 → -50 ≤ (di i).toInt ∧ (di i).toInt ≤ 50) → wpY_finish q' (sI_ (P : Int), sI_ (mode : Int), fl, sI_ lo, bI_ false, bI_ false, co, ex, di) (sI_ (d : Int)) (sI_ lo)) → WY q) :
    wpX_holdSum K (sL_ ((10 ^ P : Nat) : Int), sI_ (mode : Int), fl, ne, ma, sc, ta, co, ex) (sL_ x) (sI_ p) (sL_ y) (sI_ q) := by
  have hpp := yf_p hP
  refine xs_sum x y p q lo T hx hy (by omega) (by omega) hlo hT (fun f hf h1 h2 => hK _ _ _ _ _ _ _ _ _ ?_)
  refine bf_fin WY k P mode d (T.natAbs / 10 ^ f) f false (decide (T < 0)) false (decide (T.natAbs % 10 ^ f ≠ 0)) lo lo (lo + f) T hP hm hR hd (by omega) (by omega) hf ?_ (fun c => absurd c (by decide)) h2 rfl ?_ rfl rfl rfl ?_ ?_ hpost hWY
  · rw [← hT]; exact bf_sum hx hy (by omega) (by omega)
  · intro z
    rcases h1 with c | c
    · subst c
      rw [Nat.pow_zero, Nat.div_one] at z
      omega
    · omega
  · intro z
    rcases h1 with c | c
    · subst c
      rw [Nat.pow_zero, Nat.mod_one] at z
      exact absurd z (by decide)
    · omega
  · intro _
    left
    refine ⟨by omega, fun z => ?_⟩
    rcases h1 with c | c
    · omega
    · omega
theorem rg_c {P : Nat} {co ex : Nat → Int32} (hR : RG_ P co ex) (hP : 3 ≤ P ∧ P ≤ 7) {j : Nat} (hj : j < 6) : ∃ x : Int, co j = sI_ x ∧ x.natAbs < 10 ^ P ∧ x.natAbs < 10 ^ 7 := by
  have hp := yf_p hP
  have := hR.1 j hj
  exact ⟨(co j).toInt, (sI_self _).symm, this, by omega⟩
theorem rg_e {P : Nat} {co ex : Nat → Int32} (hR : RG_ P co ex) {j : Nat} (hj : j < 6) : ∃ p : Int, ex j = sI_ p ∧ (-20 ≤ p ∧ p ≤ 20) :=
  ⟨(ex j).toInt, (sI_self _).symm, hR.2 j hj⟩
