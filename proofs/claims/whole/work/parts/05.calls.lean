/-! the calls of either side, at their outer names -/
theorem xs_eqT {post : Int32 → Prop} {a o : Nat → Int32} {c e : Nat} (hc : c ≤ 6) (he : e < c) (k : post 1) : wpX_isEquation post (nI c, a, o) (nI e) := by
  unfold wpX_isEquation
  exact br_f (nI_pos (by omega)) (br_f (nI_ge he (by omega)) k)
theorem xs_eqF {post : Int32 → Prop} {a o : Nat → Int32} {c x : Int32} (hx : x < 0 ∨ c ≤ x) (k : post 0) : wpX_isEquation post (c, a, o) x := by
  unfold wpX_isEquation
  exact br_c (fun _ => k) (fun h => br_t (hx.resolve_left h) k)
theorem ys_bdT {post : Int32 → Prop} {kn : Int32} {a o b ct : Nat → Int32} {c e : Nat} (hc : c ≤ 6) (he : e < c) (k : post 0) : wpY_bad post (nI c, kn, a, o, b, ct) (nI e) := by
  unfold wpY_bad
  exact br_f (nI_pos (by omega)) (br_t (nI_lt he (by omega)) k)
theorem ys_bdF {post : Int32 → Prop} {kn c x : Int32} {a o b ct : Nat → Int32} (hx : x < 0 ∨ c ≤ x) (k : post 1) : wpY_bad post (c, kn, a, o, b, ct) x := by
  unfold wpY_bad
  exact br_c (fun _ => k) (fun h => br_f (Int32.not_lt.mpr (hx.resolve_left h)) k)
/-! add -/
theorem ms_putStep {a : Nat → Int32} {c R j : Nat} (hc : c ≤ 6) (hj : j < 5) (hR : R < 2 ^ 31) :
    upd (ms_put a c R j) (nI c * 5 + nI j).toNatClampNeg (nI (R / 7 ^ j) - nI (R / 7 ^ j) / 7 * 7) = ms_put a c R (j + 1) := by
  rw [ms_m5, nI_add, nI_clamp (by omega), ms_r7 (ms_dvLt hR j)]; rfl
theorem ms_putIn {c j : Nat} (hc : c < 6) (hj : j < 5) : vp_in (nI c * 5 + nI j) 30 := by
  rw [ms_m5, nI_add]
  exact vp_in_nI (by omega) (by decide)
theorem ms_updC {o : Nat → Int32} {c : Nat} (hc : c < 6) (x : Int32) : upd o (nI c).toNatClampNeg x = upd o c x := by rw [nI_clamp (by omega)]
theorem xs_adLoop {post : Int32 → SX → Prop} {a o : Nat → Int32} {c R : Nat} (hc : c < 6) (hR : R < 2 ^ 31) (k : post (nI c) (nI (c + 1), ms_put a c R 5, upd o c (vp_nar .boolean 1))) :
    ∀ d j, j + d = 5 → wX_add_25 post (nI c) (nI c) (d + 1) (nI (R / 7 ^ j)) (nI j) (ms_put a c R j) o := by
  intro d
  induction d with
  | zero =>
    intro j hj
    obtain rfl : j = 5 := by omega
    exact br_t (by decide +kernel) ⟨vp_in_nI hc (by decide), nm_r (ms_updC hc _) (nm_r (nI_1 c) k)⟩
  | succ d ih =>
    intro j hj
    exact br_f (nI_ge (b := 5) (by omega) (by decide)) ⟨ms_n7, ms_putIn hc (by omega), nm_r (ms_putStep (by omega) (by omega) hR) ⟨ms_n7, nm_r (ms_dvStep hR) (nm_r (nI_1 j) (ih (j + 1) (by omega)))⟩⟩
theorem xs_add {post : Int32 → SX → Prop} {a o : Nat → Int32} {c R : Nat} {x : Int32} (hc : c < 6) (hR : R < 2 ^ 31) (ex : x &&& 2147483647 = nI R) (k : post (nI c) (nI (c + 1), ms_put a c R 5, upd o c (vp_nar .boolean 1))) : wpX_add post (nI c, a, o) x := by
  have h := xs_adLoop (a := a) hc hR k 5 0 rfl
  rw [Nat.pow_zero, Nat.div_one] at h
  have h6 : ¬ nI c = 6 := fun z => absurd ((nI_eq (a := c) (b := 6) (by omega) (by decide)).mp z) (by omega)
  unfold wpX_add
  exact br_f h6 (nm_r ex ⟨6, h⟩)
theorem xs_addF {post : Int32 → SX → Prop} {a o : Nat → Int32} {x : Int32} (k : post (-3) (nI 6, a, o)) : wpX_add post (nI 6, a, o) x := by
  unfold wpX_add
  exact br_t (by decide +kernel) k
theorem ys_adLoop {post : Int32 → SY → Prop} {kn : Int32} {a o b ct : Nat → Int32} {c R : Nat} (hc : c < 6) (hR : R < 2 ^ 31) (k : post (nI c) (nI (c + 1), 0, ms_put a c R 5, upd o c (vp_nar .boolean 1), b, ct)) :
    ∀ d j, j + d = 5 → wY_add_20 post (nI c) kn (d + 1) (nI (R / 7 ^ j)) (nI j) (ms_put a c R j) o b ct := by
  intro d
  induction d with
  | zero =>
    intro j hj
    obtain rfl : j = 5 := by omega
    refine br_t (by decide +kernel) ⟨vp_in_nI hc (by decide), nm_r (ms_updC hc _) (nm_r (nI_1 c) ?_)⟩
    rw [nI_pred]
    exact k
  | succ d ih =>
    intro j hj
    exact br_f (nI_ge (b := 5) (by omega) (by decide)) ⟨ms_n7, ms_putIn hc (by omega), nm_r (ms_putStep (by omega) (by omega) hR) ⟨ms_n7, nm_r (ms_dvStep hR) (nm_r (nI_1 j) (ih (j + 1) (by omega)))⟩⟩
theorem ys_add {post : Int32 → SY → Prop} {kn : Int32} {a o b ct : Nat → Int32} {c R : Nat} {x : Int32} (hc : c < 6) (hR : R < 2 ^ 31) (ex : x &&& 2147483647 = nI R) (k : post (nI c) (nI (c + 1), 0, ms_put a c R 5, upd o c (vp_nar .boolean 1), b, ct)) : wpY_add post (nI c, kn, a, o, b, ct) x := by
  have h := ys_adLoop (kn := kn) (a := a) hc hR k 5 0 rfl
  rw [Nat.pow_zero, Nat.div_one] at h
  have h6 : ¬ nI c = 6 := fun z => absurd ((nI_eq (a := c) (b := 6) (by omega) (by decide)).mp z) (by omega)
  unfold wpY_add
  refine br_f h6 ?_
  unfold wpY_positive
  rw [ex]
  exact ⟨6, h⟩
theorem ys_addF {post : Int32 → SY → Prop} {kn : Int32} {a o b ct : Nat → Int32} {x : Int32} (k : post (-3) (nI 6, kn, a, o, b, ct)) : wpY_add post (nI 6, kn, a, o, b, ct) x := by
  unfold wpY_add
  exact br_t (by decide +kernel) k
/-! set -/
def ms_md (x : Int32) : Int32 := ((x - x / 7 * 7) + 7) - ((x - x / 7 * 7) + 7) / 7 * 7
theorem ms_ixC {e j : Nat} (he : e < 6) (hj : j < 5) : (nI e * 5 + nI j).toNatClampNeg = e * 5 + j := by
  rw [ms_m5, nI_add, nI_clamp (by omega)]
theorem xs_set {post : Int32 → SX → Prop} {a o : Nat → Int32} {c e j : Nat} {x : Int32} (hc : c ≤ 6) (he : e < c) (hj : j < 5) (k : post (a (e * 5 + j)) (nI c, upd a (e * 5 + j) (ms_md x), o)) : wpX_set post (nI c, a, o) (nI e) (nI j) x := by
  have hin := ms_putIn (show e < 6 by omega) hj
  have hcl := ms_ixC (show e < 6 by omega) hj
  unfold wpX_set
  refine xs_eqT hc he ?_
  refine br_f (by decide) (br_f (nI_pos (by omega)) (br_t (nI_lt (b := 5) hj (by decide)) (nm_e ⟨hin, nm_e ⟨ms_n7, ms_n7, hin, nm_e ?_⟩⟩)))
  rw [hcl]
  exact k
theorem ys_set {post : Int32 → SY → Prop} {kn : Int32} {a o b ct : Nat → Int32} {c e j : Nat} {x : Int32} (hc : c ≤ 6) (he : e < c) (hj : j < 5) (k : post (a (e * 5 + j)) (nI c, 0, upd a (e * 5 + j) (ms_md x), o, b, ct)) : wpY_set post (nI c, kn, a, o, b, ct) (nI e) (nI j) x := by
  have hin := ms_putIn (show e < 6 by omega) hj
  have hcl := ms_ixC (show e < 6 by omega) hj
  unfold wpY_set
  refine ys_bdT hc he ?_
  refine br_t rfl (br_f (nI_pos (by omega)) (br_t (nI_le (b := 4) (by omega) (by decide)) ⟨hin, nm_e ⟨ms_n7, ms_n7, hin, nm_e ?_⟩⟩))
  rw [hcl]
  exact k
theorem xs_setE {post : Int32 → SX → Prop} {a o : Nat → Int32} {c e y x : Int32} (he : e < 0 ∨ c ≤ e) (k : post (-1) (c, a, o)) : wpX_set post (c, a, o) e y x := by
  unfold wpX_set
  refine xs_eqF he ?_
  exact br_t rfl k
theorem ys_setE {post : Int32 → SY → Prop} {kn c e y x : Int32} {a o b ct : Nat → Int32} (he : e < 0 ∨ c ≤ e) (k : post (-1) (c, kn, a, o, b, ct)) : wpY_set post (c, kn, a, o, b, ct) e y x := by
  unfold wpY_set
  refine ys_bdF he ?_
  exact br_f (by decide) k
theorem ms_no5 {x : Int32} (hx : x < 0 ∨ 5 ≤ x) (h : ¬ x < 0) : ¬ x < 5 ∧ ¬ x ≤ 4 := by
  have h5 := hx.resolve_left h
  rw [Int32.le_iff_toInt_le] at h5
  have a4 : (4 : Int32).toInt = 4 := by decide
  have a5 : (5 : Int32).toInt = 5 := by decide
  constructor
  · rw [Int32.lt_iff_toInt_lt]; omega
  · rw [Int32.le_iff_toInt_le]; omega
theorem xs_setU {post : Int32 → SX → Prop} {a o : Nat → Int32} {c e : Nat} {y x : Int32} (hc : c ≤ 6) (he : e < c) (hy : y < 0 ∨ 5 ≤ y) (k : post (-2) (nI c, a, o)) : wpX_set post (nI c, a, o) (nI e) y x := by
  unfold wpX_set
  refine xs_eqT hc he ?_
  exact br_f (by decide) (br_c (fun _ => k) (fun h => br_f (ms_no5 hy h).1 k))
theorem ys_setU {post : Int32 → SY → Prop} {kn : Int32} {a o b ct : Nat → Int32} {c e : Nat} {y x : Int32} (hc : c ≤ 6) (he : e < c) (hy : y < 0 ∨ 5 ≤ y) (k : post (-2) (nI c, kn, a, o, b, ct)) : wpY_set post (nI c, kn, a, o, b, ct) (nI e) y x := by
  unfold wpY_set
  refine ys_bdT hc he ?_
  exact br_t rfl (br_c (fun _ => k) (fun h => br_f (ms_no5 hy h).2 k))
/-! turn -/
theorem xs_turn {post : Int32 → SX → Prop} {a o : Nat → Int32} {c e : Nat} {x : Int32} (hc : c ≤ 6) (he : e < c) (k : post (if o e = 0 then 0 else 1) (nI c, a, upd o e (vp_nar .boolean x))) : wpX_turn post (nI c, a, o) (nI e) x := by
  have hin : vp_in (nI e) 6 := vp_in_nI (by omega) (by decide)
  have hcl : (nI e).toNatClampNeg = e := nI_clamp (by omega)
  unfold wpX_turn
  refine xs_eqT hc he ?_
  refine br_f (by decide) ⟨hin, br_c (fun z => ⟨hin, nm_e ?_⟩) (fun z => ⟨hin, nm_e ?_⟩)⟩
  · rw [hcl] at z ⊢
    rw [if_pos z] at k
    exact k
  · rw [hcl] at z ⊢
    rw [if_neg z] at k
    exact k
theorem ys_turn {post : Int32 → SY → Prop} {kn : Int32} {a o b ct : Nat → Int32} {c e : Nat} {x : Int32} (hc : c ≤ 6) (he : e < c) (k : post (if o e = 0 then 0 else 1) (nI c, kn, a, upd o e (vp_nar .boolean x), b, ct)) : wpY_turn post (nI c, kn, a, o, b, ct) (nI e) x := by
  have hin : vp_in (nI e) 6 := vp_in_nI (by omega) (by decide)
  have hcl : (nI e).toNatClampNeg = e := nI_clamp (by omega)
  unfold wpY_turn
  refine ys_bdT hc he ?_
  refine br_t rfl ⟨hin, br_c (fun z => ⟨hin, nm_e ?_⟩) (fun z => ⟨hin, nm_e ?_⟩)⟩
  · rw [hcl] at z ⊢
    rw [if_pos z] at k
    exact k
  · rw [hcl] at z ⊢
    rw [if_neg z] at k
    exact k
theorem xs_turnE {post : Int32 → SX → Prop} {a o : Nat → Int32} {c e x : Int32} (he : e < 0 ∨ c ≤ e) (k : post (-1) (c, a, o)) : wpX_turn post (c, a, o) e x := by
  unfold wpX_turn
  refine xs_eqF he ?_
  exact br_t rfl k
theorem ys_turnE {post : Int32 → SY → Prop} {kn c e x : Int32} {a o b ct : Nat → Int32} (he : e < 0 ∨ c ≤ e) (k : post (-1) (c, kn, a, o, b, ct)) : wpY_turn post (c, kn, a, o, b, ct) e x := by
  unfold wpY_turn
  refine ys_bdF he ?_
  exact br_f (by decide) k
/-! the calls that read -/
theorem xs_solutions {post : Int32 → Prop} {a o : Nat → Int32} {c : Nat} (hc : c ≤ 6) (k : post (nI (ms_ct (ms_sol a o c) 2401))) : wpX_solutions post (nI c, a, o) := by
  unfold wpX_solutions
  exact xs_sb (t := 2401) hc (by omega) k
theorem ys_solutions {post : Int32 → SY → Prop} {kn : Int32} {a o b ct : Nat → Int32} {c : Nat} (hc : c ≤ 6) (hK : ¬ kn = 0 → ms_ok a c b)
    (k : ∀ kn' b', ms_ok a c b' → post (nI (ms_ct (ms_sol a o c) 2401)) (nI c, kn', a, o, b', ct)) : wpY_solutions post (nI c, kn, a, o, b, ct) := by
  unfold wpY_solutions
  exact ys_bf (t := 2401) hc hK (by omega) k
theorem xs_value {post : Int32 → Prop} {v : Int32} {a o : Nat → Int32} {c x : Nat} (hc : c ≤ 6) (hx : x < 4) (k : post (ms_vl (ms_sol a o c) v x 2401 0)) : wpX_value post (nI c, a, o) v (nI x) := by
  unfold wpX_value
  refine br_c (fun h => ?_) (fun _ => xs_unkT hx (br_f (by decide) ⟨2402, xs_vlLoop hc hx 2401 0 rfl k⟩))
  rw [ms_vlNeg h 2401 0 rfl] at k
  exact k
theorem ys_value {post : Int32 → SY → Prop} {v kn : Int32} {a o b ct : Nat → Int32} {c x : Nat} (hc : c ≤ 6) (hx : x < 4) (hK : ¬ kn = 0 → ms_ok a c b)
    (k : ∀ kn' b', ms_ok a c b' → post (ms_vl (ms_sol a o c) v x 2401 0) (nI c, kn', a, o, b', ct)) : wpY_value post (nI c, kn, a, o, b, ct) v (nI x) := by
  unfold wpY_value
  refine br_f (nI_pos (by omega)) (br_t (nI_le (b := 3) (by omega) (by decide)) ?_)
  refine ys_wo hc hK (fun kn' b' h => ?_)
  refine ys_on hc ?_
  exact ⟨2402, ys_vlLoop hc hx h 2401 0 rfl (k kn' b' h)⟩
theorem xs_valueF {post : Int32 → Prop} {c v x : Int32} {a o : Nat → Int32} (hx : x < 0 ∨ 4 ≤ x) (k : post (-4)) : wpX_value post (c, a, o) v x := by
  unfold wpX_value
  exact br_c (fun _ => k) (fun _ => xs_unkF hx (br_t rfl k))
theorem ys_valueF {post : Int32 → SY → Prop} {kn c v x : Int32} {a o b ct : Nat → Int32} (hx : x < 0 ∨ 4 ≤ x) (k : post (-4) (c, kn, a, o, b, ct)) : wpY_value post (c, kn, a, o, b, ct) v x := by
  unfold wpY_value
  exact br_c (fun _ => k) (fun h => br_f (ms_no3 hx h) k)
theorem xs_possible {post : Int32 → Prop} {a o : Nat → Int32} {c x : Nat} (hc : c ≤ 6) (hx : x < 4) (k : post (nI (ms_ps a o c x 2401))) : wpX_possible post (nI c, a, o) (nI x) := by
  unfold wpX_possible
  refine xs_unkT hx ?_
  exact br_f (by decide) (xs_ps hc hx k)
theorem xs_possibleF {post : Int32 → Prop} {c x : Int32} {a o : Nat → Int32} (hx : x < 0 ∨ 4 ≤ x) (k : post 0) : wpX_possible post (c, a, o) x := by
  unfold wpX_possible
  refine xs_unkF hx ?_
  exact br_t rfl k
theorem xs_fixed {post : Int32 → Prop} {a o : Nat → Int32} {c x : Nat} (hc : c ≤ 6) (hx : x < 4) (k : post (ms_fx (ms_ps a o c x 2401))) : wpX_fixed post (nI c, a, o) (nI x) := by
  have hm := ms_psLt a o c x
  have hp := ms_pcLe (ms_ps a o c x 2401) 7
  unfold wpX_fixed
  refine xs_unkT hx ?_
  refine br_f (by decide) (xs_ps hc hx ?_)
  refine xs_bit (by omega) ?_
  refine pk_eq (ms_pc (ms_ps a o c x 2401) 7) 1 (fun z => ?_) (fun z => ?_)
  · rw [show ms_fx (ms_ps a o c x 2401) = 1 from if_pos z] at k
    exact k
  · rw [show ms_fx (ms_ps a o c x 2401) = 0 from if_neg z] at k
    exact k
theorem xs_fixedF {post : Int32 → Prop} {c x : Int32} {a o : Nat → Int32} (hx : x < 0 ∨ 4 ≤ x) (k : post 0) : wpX_fixed post (c, a, o) x := by
  unfold wpX_fixed
  refine xs_unkF hx ?_
  exact br_t rfl k
theorem ys_fixed {post : Int32 → SY → Prop} {kn : Int32} {a o b ct : Nat → Int32} {c x : Nat} (hc : c ≤ 6) (hx : x < 4) (hK : ¬ kn = 0 → ms_ok a c b)
    (k : ∀ kn' b', ms_ok a c b' → post (ms_fx (ms_ps a o c x 2401)) (nI c, kn', a, o, b', ct)) : wpY_fixed post (nI c, kn, a, o, b, ct) (nI x) := by
  unfold wpY_fixed
  refine ys_psT hc hx hK (fun kn' b' h => ?_)
  exact ⟨8, ys_fxLoop (ms_psLt a o c x) (k kn' b' h) 7 0 rfl (fun w hw => absurd hw (Nat.not_lt_zero w))⟩
theorem ys_fixedF {post : Int32 → SY → Prop} {kn c x : Int32} {a o b ct : Nat → Int32} (hx : x < 0 ∨ 4 ≤ x) (k : post 0 (c, kn, a, o, b, ct)) : wpY_fixed post (c, kn, a, o, b, ct) x := by
  have e : ms_fx 0 = 0 := if_neg (by decide)
  rw [← e] at k
  unfold wpY_fixed
  refine ys_psF hx ?_
  exact ⟨8, ys_fxLoop (m := 0) (by decide) k 7 0 rfl (fun w hw => absurd hw (Nat.not_lt_zero w))⟩
theorem xs_rank {post : Int32 → Prop} {a o : Nat → Int32} {c R : Nat} {x : Int32} (hc : c ≤ 6) (hR : R < 2 ^ 31) (ex : x &&& 2147483647 = nI R) (k : post (nI (ms_ct (ms_sol a o c) (ms_to R 4)))) : wpX_rank post (nI c, a, o) x := by
  have h := xs_rkLoop hc hR k 4 0 rfl
  rw [Nat.pow_zero, Nat.div_one] at h
  unfold wpX_rank
  exact nm_r ex ⟨5, h⟩
theorem ys_rank {post : Int32 → SY → Prop} {kn : Int32} {a o b ct : Nat → Int32} {c R : Nat} {x : Int32} (hc : c ≤ 6) (hR : R < 2 ^ 31) (ex : x &&& 2147483647 = nI R) (hK : ¬ kn = 0 → ms_ok a c b)
    (k : ∀ kn' b', ms_ok a c b' → post (nI (ms_ct (ms_sol a o c) (ms_to R 4))) (nI c, kn', a, o, b', ct)) : wpY_rank post (nI c, kn, a, o, b, ct) x := by
  have h := ys_rkLoop hc hK hR k 4 0 rfl
  rw [Nat.pow_zero, Nat.div_one] at h
  unfold wpY_rank wpY_positive
  rw [ex]
  exact ⟨5, h⟩
theorem xs_follows {post : Int32 → Prop} {a o : Nat → Int32} {c e : Nat} (hc : c ≤ 6) (he : e < c) (k : post (ms_fo (ms_sol a o c) (fun i => ms_bad a e i) 2401 0)) : wpX_follows post (nI c, a, o) (nI e) := by
  unfold wpX_follows
  refine xs_eqT hc he ?_
  exact br_f (by decide) ⟨2402, xs_foLoop hc (by omega) 2401 0 rfl k⟩
theorem xs_followsE {post : Int32 → Prop} {c e : Int32} {a o : Nat → Int32} (he : e < 0 ∨ c ≤ e) (k : post 0) : wpX_follows post (c, a, o) e := by
  unfold wpX_follows
  refine xs_eqF he ?_
  exact br_t rfl k
theorem ys_follows {post : Int32 → SY → Prop} {kn : Int32} {a o b ct : Nat → Int32} {c e : Nat} (hc : c ≤ 6) (he : e < c) (hK : ¬ kn = 0 → ms_ok a c b)
    (k : ∀ kn' b', ms_ok a c b' → post (ms_fo (ms_sol a o c) (fun i => ms_bad a e i) 2401 0) (nI c, kn', a, o, b', ct)) : wpY_follows post (nI c, kn, a, o, b, ct) (nI e) := by
  unfold wpY_follows
  refine ys_bdT hc he ?_
  refine br_t rfl (ys_wo hc hK (fun kn' b' h => ?_))
  refine ys_on hc ?_
  exact ⟨2402, ys_foLoop hc he h 2401 0 rfl (k kn' b' h)⟩
theorem ys_followsE {post : Int32 → SY → Prop} {kn c e : Int32} {a o b ct : Nat → Int32} (he : e < 0 ∨ c ≤ e) (k : post 0 (c, kn, a, o, b, ct)) : wpY_follows post (c, kn, a, o, b, ct) e := by
  unfold wpY_follows
  refine ys_bdF he ?_
  exact br_f (by decide) k
theorem ms_ndEq {a o : Nat → Int32} {c : Nat} (hc : c ≤ 6) : ms_mn (ms_yo (ms_by a c) (ms_al o c)) 64 = ms_mn (ms_ko (ms_or (fun _ => true) (ms_bx a o c) 2401)) 64 := by
  rw [ms_least (ms_by a c) (ms_al o c) (ms_al64 hc o)]
  unfold ms_pt
  rw [show (fun i => ms_by a c i &&& ms_al o c) = ms_bx a o c from funext (fun i => ms_bxE a o c i)]
theorem ms_bad2 {n : Nat} {x : Int32} (hn : n < 2 ^ 31) : (x < 0 ∨ nI n ≤ x) ∨ ∃ j : Nat, j < n ∧ x = nI j := by
  rcases pk_ix x hn with h | h | h
  · exact Or.inl (Or.inl h)
  · exact Or.inl (Or.inr h)
  · exact Or.inr h
