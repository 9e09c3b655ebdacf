theorem i_vc_flags {k : Nat} {u : SX} {v : SY} (I : i_Rel k u v) (hk : k + 5 ≤ 2561) : wpX_flags (fun r => wpY_flags (fun r' => r' = r ∧ i_Rel (k + 5) u v) v) u := by
  have I' := i_up I
  obtain ⟨P, mode, fl, co, ex, ne, ma, sc, ta, lo, ne', mr, di, rfl, rfl, hP, hm, hR⟩ := I
  exact ⟨rfl, I'⟩
theorem i_vc_lower {k : Nat} {u : SX} {v : SY} (I : i_Rel k u v) (hk : k + 5 ≤ 2561) : wpX_lower (fun r u' => wpY_lower (fun r' v' => r' = r ∧ i_Rel (k + 5) u' v') v) u := by
  obtain ⟨P, mode, fl, co, ex, ne, ma, sc, ta, lo, ne', mr, di, rfl, rfl, hP, hm, hR⟩ := I
  exact ⟨rfl, ⟨P, mode, 0, co, ex, ne, ma, sc, ta, lo, ne', mr, di, rfl, rfl, hP, hm, hR⟩⟩
