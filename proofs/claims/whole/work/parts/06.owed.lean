/-- the same count, the same numbers, the same switches; Y's table, where it is known, is the right one -/
def i_Rel (k : Nat) (u : SX) (v : SY) : Prop := ∃ (c : Nat) (kn : Int32) (a o b ct : Nat → Int32), c ≤ 6 ∧ u = (nI c, a, o) ∧ v = (nI c, kn, a, o, b, ct) ∧ (¬ kn = 0 → ms_ok a c b)
theorem i_up {k : Nat} {u : SX} {v : SY} (h : i_Rel k u v) : i_Rel (k + 4) u v := h
theorem i_vc0 : wpX_init (fun u => wpY_init (fun v => i_Rel 0 u v)) := ⟨0, 0, (fun _ => 0), (fun _ => 0), (fun _ => 0), (fun _ => 0), by omega, rfl, rfl, fun h => absurd rfl h⟩
theorem i_vc_add {k : Nat} {u : SX} {v : SY} (I : i_Rel k u v) (hk : k + 4 ≤ 2048) (v1 : Int32) : wpX_add (fun r u' => wpY_add (fun r' v' => r' = r ∧ i_Rel (k + 4) u' v') v v1) u v1 := by
  obtain ⟨c, kn, a, o, b, ct, hc, rfl, rfl, hK⟩ := I
  by_cases h6 : c = 6
  · subst h6
    exact xs_addF (ys_addF ⟨rfl, 6, kn, a, o, b, ct, hc, rfl, rfl, hK⟩)
  · obtain ⟨R, hR, ex⟩ := pk_andE v1 (m := 2147483647) 31 (by decide)
    exact xs_add (by omega) hR ex (ys_add (by omega) hR ex ⟨rfl, c + 1, 0, _, _, b, ct, by omega, rfl, rfl, fun h => absurd rfl h⟩)
theorem i_vc_set {k : Nat} {u : SX} {v : SY} (I : i_Rel k u v) (hk : k + 4 ≤ 2048) (v1 : Int32) (v2 : Int32) (v3 : Int32) : wpX_set (fun r u' => wpY_set (fun r' v' => r' = r ∧ i_Rel (k + 4) u' v') v v1 v2 v3) u v1 v2 v3 := by
  obtain ⟨c, kn, a, o, b, ct, hc, rfl, rfl, hK⟩ := I
  rcases ms_bad2 (n := c) (x := v1) (by omega) with h | ⟨e, he, rfl⟩
  · exact xs_setE h (ys_setE h ⟨rfl, c, kn, a, o, b, ct, hc, rfl, rfl, hK⟩)
  · rcases ms_bad2 (n := 5) (x := v2) (by decide) with h | ⟨j, hj, rfl⟩
    · exact xs_setU hc he h (ys_setU hc he h ⟨rfl, c, kn, a, o, b, ct, hc, rfl, rfl, hK⟩)
    · exact xs_set hc he hj (ys_set hc he hj ⟨rfl, c, 0, _, o, b, ct, hc, rfl, rfl, fun h => absurd rfl h⟩)
theorem i_vc_turn {k : Nat} {u : SX} {v : SY} (I : i_Rel k u v) (hk : k + 4 ≤ 2048) (v1 : Int32) (v2 : Int32) : wpX_turn (fun r u' => wpY_turn (fun r' v' => r' = r ∧ i_Rel (k + 4) u' v') v v1 (lw_bz v2)) u v1 (lw_bz v2) := by
  obtain ⟨c, kn, a, o, b, ct, hc, rfl, rfl, hK⟩ := I
  rcases ms_bad2 (n := c) (x := v1) (by omega) with h | ⟨e, he, rfl⟩
  · exact xs_turnE h (ys_turnE h ⟨rfl, c, kn, a, o, b, ct, hc, rfl, rfl, hK⟩)
  · exact xs_turn hc he (ys_turn hc he ⟨rfl, c, kn, a, _, b, ct, hc, rfl, rfl, hK⟩)
theorem i_vc_drop {k : Nat} {u : SX} {v : SY} (I : i_Rel k u v) (hk : k + 4 ≤ 2048) : wpX_drop (fun r u' => wpY_drop (fun r' v' => r' = r ∧ i_Rel (k + 4) u' v') v) u := by
  obtain ⟨c, kn, a, o, b, ct, hc, rfl, rfl, hK⟩ := I
  unfold wpX_drop wpY_drop
  cases c with
  | zero => exact br_t nI_0 (br_t nI_0 ⟨rfl, 0, kn, a, o, b, ct, hc, rfl, rfl, hK⟩)
  | succ c =>
    have h : ¬ nI (c + 1) = 0 := nI_ne0 (by omega) (by omega)
    exact br_f h (nm_r (nI_pred c) (br_f h (nm_r (nI_pred c) ⟨rfl, c, 0, a, o, b, ct, by omega, rfl, rfl, fun h => absurd rfl h⟩)))
theorem i_vc_solutions {k : Nat} {u : SX} {v : SY} (I : i_Rel k u v) (hk : k + 4 ≤ 2048) : wpX_solutions (fun r => wpY_solutions (fun r' v' => r' = r ∧ i_Rel (k + 4) u v') v) u := by
  obtain ⟨c, kn, a, o, b, ct, hc, rfl, rfl, hK⟩ := I
  exact xs_solutions hc (ys_solutions hc hK (fun kn' b' h => ⟨rfl, c, kn', a, o, b', ct, hc, rfl, rfl, fun _ => h⟩))
theorem i_vc_value {k : Nat} {u : SX} {v : SY} (I : i_Rel k u v) (hk : k + 4 ≤ 2048) (v1 : Int32) (v2 : Int32) : wpX_value (fun r => wpY_value (fun r' v' => r' = r ∧ i_Rel (k + 4) u v') v v1 v2) u v1 v2 := by
  obtain ⟨c, kn, a, o, b, ct, hc, rfl, rfl, hK⟩ := I
  rcases ms_bad2 (n := 4) (x := v2) (by decide) with h | ⟨x, hx, rfl⟩
  · exact xs_valueF h (ys_valueF h ⟨rfl, c, kn, a, o, b, ct, hc, rfl, rfl, hK⟩)
  · exact xs_value hc hx (ys_value hc hx hK (fun kn' b' h => ⟨rfl, c, kn', a, o, b', ct, hc, rfl, rfl, fun _ => h⟩))
theorem i_vc_possible {k : Nat} {u : SX} {v : SY} (I : i_Rel k u v) (hk : k + 4 ≤ 2048) (v1 : Int32) : wpX_possible (fun r => wpY_possible (fun r' v' => r' = r ∧ i_Rel (k + 4) u v') v v1) u v1 := by
  obtain ⟨c, kn, a, o, b, ct, hc, rfl, rfl, hK⟩ := I
  rcases ms_bad2 (n := 4) (x := v1) (by decide) with h | ⟨x, hx, rfl⟩
  · exact xs_possibleF h (ys_psF h ⟨rfl, c, kn, a, o, b, ct, hc, rfl, rfl, hK⟩)
  · exact xs_possible hc hx (ys_psT hc hx hK (fun kn' b' h => ⟨rfl, c, kn', a, o, b', ct, hc, rfl, rfl, fun _ => h⟩))
theorem i_vc_fixed {k : Nat} {u : SX} {v : SY} (I : i_Rel k u v) (hk : k + 4 ≤ 2048) (v1 : Int32) : wpX_fixed (fun r => wpY_fixed (fun r' v' => r' = r ∧ i_Rel (k + 4) u v') v v1) u v1 := by
  obtain ⟨c, kn, a, o, b, ct, hc, rfl, rfl, hK⟩ := I
  rcases ms_bad2 (n := 4) (x := v1) (by decide) with h | ⟨x, hx, rfl⟩
  · exact xs_fixedF h (ys_fixedF h ⟨rfl, c, kn, a, o, b, ct, hc, rfl, rfl, hK⟩)
  · exact xs_fixed hc hx (ys_fixed hc hx hK (fun kn' b' h => ⟨rfl, c, kn', a, o, b', ct, hc, rfl, rfl, fun _ => h⟩))
theorem i_vc_rank {k : Nat} {u : SX} {v : SY} (I : i_Rel k u v) (hk : k + 4 ≤ 2048) (v1 : Int32) : wpX_rank (fun r => wpY_rank (fun r' v' => r' = r ∧ i_Rel (k + 4) u v') v v1) u v1 := by
  obtain ⟨c, kn, a, o, b, ct, hc, rfl, rfl, hK⟩ := I
  obtain ⟨R, hR, ex⟩ := pk_andE v1 (m := 2147483647) 31 (by decide)
  exact xs_rank hc hR ex (ys_rank hc hR ex hK (fun kn' b' h => ⟨rfl, c, kn', a, o, b', ct, hc, rfl, rfl, fun _ => h⟩))
theorem i_vc_follows {k : Nat} {u : SX} {v : SY} (I : i_Rel k u v) (hk : k + 4 ≤ 2048) (v1 : Int32) : wpX_follows (fun r => wpY_follows (fun r' v' => r' = r ∧ i_Rel (k + 4) u v') v v1) u v1 := by
  obtain ⟨c, kn, a, o, b, ct, hc, rfl, rfl, hK⟩ := I
  rcases ms_bad2 (n := c) (x := v1) (by omega) with h | ⟨e, he, rfl⟩
  · exact xs_followsE h (ys_followsE h ⟨rfl, c, kn, a, o, b, ct, hc, rfl, rfl, hK⟩)
  · exact xs_follows hc he (ys_follows hc he hK (fun kn' b' h => ⟨rfl, c, kn', a, o, b', ct, hc, rfl, rfl, fun _ => h⟩))
theorem i_vc_needed {k : Nat} {u : SX} {v : SY} (I : i_Rel k u v) (hk : k + 4 ≤ 2048) : wpX_needed (fun r => wpY_needed (fun r' v' => r' = r ∧ i_Rel (k + 4) u v') v) u := by
  obtain ⟨c, kn, a, o, b, ct, hc, rfl, rfl, hK⟩ := I
  exact xs_nd hc (ys_nd hc hK (fun kn' b' ct' h => ⟨congrArg nI (ms_ndEq hc), c, kn', a, o, b', ct', hc, rfl, rfl, fun _ => h⟩))
