/-! Y's own methods, each with a general post -/
theorem ys_byLoop {post : Int32 → Prop} {kn : Int32} {a o b ct : Nat → Int32} {c i : Nat} (hc : c ≤ 6) (k : post (nI (ms_by a c i))) :
    ∀ d q, q + d = c → wY_brokenBy_6 post (nI (i / 343)) (nI (i / 49 % 7)) (nI (i / 7 % 7)) (nI (i % 7)) (nI c) kn a o b ct (d + 1) (nI (ms_by a q i)) (nI q) := by
  intro d
  induction d with
  | zero =>
    intro q hq
    obtain rfl : q = c := by omega
    exact br_t (nI_le (Nat.le_refl _) (by omega)) k
  | succ d ih =>
    intro q hq
    have h : ¬ nI c ≤ nI q := nI_ge (by omega) (by omega)
    have hn := ih (q + 1) (by omega)
    have x1 : nI (q * 5) + 1 = nI (q * 5 + 1) := nI_add (q * 5) 1
    have x2 : nI (q * 5) + 2 = nI (q * 5 + 2) := nI_add (q * 5) 2
    have x3 : nI (q * 5) + 3 = nI (q * 5 + 3) := nI_add (q * 5) 3
    have x4 : nI (q * 5) + 4 = nI (q * 5 + 4) := nI_add (q * 5) 4
    have i0 : vp_in (nI (q * 5)) 30 := vp_in_nI (by omega) (by decide)
    have i1 : vp_in (nI (q * 5) + 1) 30 := by rw [x1]; exact vp_in_nI (by omega) (by decide)
    have i2 : vp_in (nI (q * 5) + 2) 30 := by rw [x2]; exact vp_in_nI (by omega) (by decide)
    have i3 : vp_in (nI (q * 5) + 3) 30 := by rw [x3]; exact vp_in_nI (by omega) (by decide)
    have i4 : vp_in (nI (q * 5) + 4) 30 := by rw [x4]; exact vp_in_nI (by omega) (by decide)
    have e : a (nI (q * 5)).toNatClampNeg * nI (i / 343) + a (nI (q * 5) + 1).toNatClampNeg * nI (i / 49 % 7) + a (nI (q * 5) + 2).toNatClampNeg * nI (i / 7 % 7) + a (nI (q * 5) + 3).toNatClampNeg * nI (i % 7) = ms_sum a q i := by
      rw [x1, x2, x3, nI_clamp (by omega), nI_clamp (by omega), nI_clamp (by omega), nI_clamp (by omega)]; rfl
    have e4 : (nI (q * 5) + 4).toNatClampNeg = q * 5 + 4 := by rw [x4]; exact nI_clamp (by omega)
    refine br_f h (nm_r (ms_m5 q) ⟨i0, i1, i2, i3, nm_r e ⟨ms_n7, i4, ?_⟩⟩)
    rw [e4]
    by_cases z : ms_sum a q i - ms_sum a q i / 7 * 7 = a (q * 5 + 4)
    · have hp : ¬ (fun q => ms_bad a q i) q = true := fun y => (of_decide_eq_true y) z
      have eb : ms_by a (q + 1) i = ms_by a q i := ms_mkF hp
      rw [eb] at hn
      exact br_t z (nm_r (nI_1 q) hn)
    · have hp : (fun q => ms_bad a q i) q = true := decide_eq_true z
      have eb : ms_by a (q + 1) i = ms_by a q i ||| 2 ^ q := ms_mkT hp
      rw [eb] at hn
      exact br_f z (nm_r (ms_put1 _ (by omega)) (nm_r (nI_1 q) hn))
theorem ys_by {post : Int32 → Prop} {kn : Int32} {a o b ct : Nat → Int32} {c i : Nat} (hc : c ≤ 6) (hi : i < 2401) (k : post (nI (ms_by a c i))) :
    wpY_brokenBy post (nI c, kn, a, o, b, ct) (nI i / 343) (nI i / 49 - nI i / 49 / 7 * 7) (nI i / 7 - nI i / 7 / 7 * 7) (nI i - nI i / 7 * 7) := by
  rw [ms_r7 (show i < 2 ^ 31 by omega), ms_d343 (by omega), ms_d49 (by omega), ms_d7 (show i < 2 ^ 31 by omega), ms_r7 (by omega), ms_r7 (by omega)]
  unfold wpY_brokenBy
  exact ⟨c + 1, ys_byLoop hc k c 0 (by omega)⟩
/-- Y's table is worked out -/
def ms_ok (a : Nat → Int32) (c : Nat) (b : Nat → Int32) : Prop := ∀ i, i < 2401 → b i = nI (ms_by a c i)
theorem ys_woLoop {post : SY → Prop} {a o ct : Nat → Int32} {c : Nat} (hc : c ≤ 6) (k : ∀ b, ms_ok a c b → post (nI c, 1, a, o, b, ct)) :
    ∀ d i b, i + d = 2401 → (∀ j, j < i → b j = nI (ms_by a c j)) → wY_workOut_15 post (nI c) 1 (d + 1) (nI i) a o b ct := by
  intro d
  induction d with
  | zero =>
    intro i b hi hb
    obtain rfl : i = 2401 := by omega
    exact br_t ms_end (k b hb)
  | succ d ih =>
    intro i b hi hb
    have hin : vp_in (nI i) 2401 := vp_in_nI (by omega) (by decide)
    refine br_f (ms_not (by omega)) ⟨ms_n343, ms_n49, ms_n7, ms_n7, ms_n7, ms_n7, ys_by hc (by omega) ⟨hin, nm_e (nm_r (nI_1 i) (ih (i + 1) _ (by omega) ?_))⟩⟩
    rw [ms_cl (show i < 2401 by omega)]
    refine lt_s (fun j hj => ?_) pk_us
    rw [pk_un (by omega)]
    exact hb j hj
theorem ys_wo {post : SY → Prop} {kn : Int32} {a o b ct : Nat → Int32} {c : Nat} (hc : c ≤ 6) (hK : ¬ kn = 0 → ms_ok a c b) (k : ∀ kn' b', ms_ok a c b' → post (nI c, kn', a, o, b', ct)) : wpY_workOut post (nI c, kn, a, o, b, ct) := by
  unfold wpY_workOut
  exact br_c (fun _ => ⟨2402, ys_woLoop hc (fun b' h => k 1 b' h) 2401 0 b rfl (fun j hj => absurd hj (Nat.not_lt_zero j))⟩) (fun h => k kn b (hK h))
theorem ys_onLoop {post : Int32 → Prop} {kn : Int32} {a o b ct : Nat → Int32} {c : Nat} (hc : c ≤ 6) (k : post (nI (ms_al o c))) :
    ∀ d q, q + d = c → wY_ons_4 post (nI c) kn a o b ct (d + 1) (nI (ms_al o q)) (nI q) := by
  intro d
  induction d with
  | zero =>
    intro q hq
    obtain rfl : q = c := by omega
    exact br_t (nI_le (Nat.le_refl _) (by omega)) k
  | succ d ih =>
    intro q hq
    have h : ¬ nI c ≤ nI q := nI_ge (by omega) (by omega)
    have hin : vp_in (nI q) 6 := vp_in_nI (by omega) (by decide)
    have hcl : (nI q).toNatClampNeg = q := nI_clamp (by omega)
    have hn := ih (q + 1) (by omega)
    by_cases z : o q = 0
    · have hp : ¬ ms_on o q = true := fun y => (of_decide_eq_true y) z
      have e : ms_al o (q + 1) = ms_al o q := ms_mkF hp
      rw [e] at hn
      exact br_f h ⟨hin, br_t (by rw [hcl]; exact z) (nm_r (nI_1 q) hn)⟩
    · have hp : ms_on o q = true := decide_eq_true z
      have e : ms_al o (q + 1) = ms_al o q ||| 2 ^ q := ms_mkT hp
      rw [e] at hn
      exact br_f h ⟨hin, br_f (by rw [hcl]; exact z) (nm_r (ms_put1 _ (by omega)) (nm_r (nI_1 q) hn))⟩
theorem ys_on {post : Int32 → Prop} {kn : Int32} {a o b ct : Nat → Int32} {c : Nat} (hc : c ≤ 6) (k : post (nI (ms_al o c))) : wpY_ons post (nI c, kn, a, o, b, ct) := by
  unfold wpY_ons
  exact ⟨c + 1, ys_onLoop hc k c 0 (by omega)⟩
theorem ys_cell {a o b : Nat → Int32} {c i : Nat} (hb : ms_ok a c b) (hi : i < 2401) : b (nI i).toNatClampNeg &&& nI (ms_al o c) = nI (ms_bx a o c i) := by
  rw [ms_cl hi, hb i hi, nx_and, ms_bxE]
theorem ys_cT {a o b : Nat → Int32} {c i : Nat} (hb : ms_ok a c b) (hi : i < 2401) (h : ms_sol a o c i = true) : b (nI i).toNatClampNeg &&& nI (ms_al o c) = 0 := by
  rw [ys_cell hb hi]; exact ms_sT h
theorem ys_cF {a o b : Nat → Int32} {c i : Nat} (hc : c ≤ 6) (hb : ms_ok a c b) (hi : i < 2401) (h : ¬ ms_sol a o c i = true) : ¬ b (nI i).toNatClampNeg &&& nI (ms_al o c) = 0 := by
  rw [ys_cell hb hi]; exact ms_sF hc h
theorem ys_in {i : Nat} (h : i < 2401) : vp_in (nI i) 2401 := vp_in_nI h (by decide)
theorem ys_bfLoop {post : Int32 → SY → Prop} {kn : Int32} {a o b ct : Nat → Int32} {c t : Nat} (hc : c ≤ 6) (ht : t ≤ 2401) (hb : ms_ok a c b)
    (k : post (nI (ms_ct (ms_sol a o c) t)) (nI c, kn, a, o, b, ct)) :
    ∀ d i, i + d = t → wY_before_14 post (nI t) (nI (ms_al o c)) (nI c) kn a o b ct (d + 1) (nI (ms_ct (ms_sol a o c) i)) (nI i) := by
  intro d
  induction d with
  | zero =>
    intro i hi
    obtain rfl : i = t := by omega
    exact br_t (nI_le (Nat.le_refl _) (by omega)) k
  | succ d ih =>
    intro i hi
    have hn := ih (i + 1) (by omega)
    refine br_f (nI_ge (by omega) (by omega)) ⟨ys_in (by omega), ?_⟩
    by_cases h : ms_sol a o c i = true
    · rw [ms_ctT h] at hn
      exact br_t (ys_cT hb (by omega) h) (nm_r (nI_1 _) (nm_r (nI_1 i) hn))
    · rw [ms_ctF h] at hn
      exact br_f (ys_cF hc hb (by omega) h) (nm_r (nI_1 i) hn)
theorem ys_bf {post : Int32 → SY → Prop} {kn : Int32} {a o b ct : Nat → Int32} {c t : Nat} (hc : c ≤ 6) (hK : ¬ kn = 0 → ms_ok a c b) (ht : t ≤ 2401)
    (k : ∀ kn' b', ms_ok a c b' → post (nI (ms_ct (ms_sol a o c) t)) (nI c, kn', a, o, b', ct)) : wpY_before post (nI c, kn, a, o, b, ct) (nI t) := by
  unfold wpY_before
  refine ys_wo hc hK (fun kn' b' h => ?_)
  refine ys_on hc ?_
  exact ⟨t + 1, ys_bfLoop hc ht h (k kn' b' h) t 0 (by omega)⟩
theorem ys_dg {post : Int32 → Prop} {v : SY} {i x : Nat} (hi : i < 2401) (hx : x < 4) (k : post (nI (ms_dg i x))) : wpY_digit post v (nI i) (nI x) := by
  obtain ⟨v1, v2, v3, v4, v5, v6⟩ := v
  have h4 : x = 0 ∨ x = 1 ∨ x = 2 ∨ x = 3 := by omega
  have e1 : nI i / 343 = nI (i / 343) := ms_d343 (by omega)
  have e2 : nI i / 49 - nI i / 49 / 7 * 7 = nI (i / 49 % 7) := by rw [ms_d49 (by omega), ms_r7 (by omega)]
  have e3 : nI i / 7 - nI i / 7 / 7 * 7 = nI (i / 7 % 7) := by rw [ms_d7 (show i < 2 ^ 31 by omega), ms_r7 (by omega)]
  have e4 : nI i - nI i / 7 * 7 = nI (i % 7) := ms_r7 (by omega)
  unfold wpY_digit
  rcases h4 with rfl | rfl | rfl | rfl
  · refine br_t (by decide) ⟨ms_n343, ?_⟩
    rw [e1]; exact k
  · refine br_f (by decide) (br_t (by decide) ⟨ms_n49, ms_n7, ?_⟩)
    rw [e2]; exact k
  · refine br_f (by decide) (br_f (by decide) (br_t (by decide) ⟨ms_n7, ms_n7, ?_⟩))
    rw [e3]; exact k
  · refine br_f (by decide) (br_f (by decide) (br_f (by decide) ⟨ms_n7, ?_⟩))
    rw [e4]; exact k
theorem ys_vlLoop {post : Int32 → SY → Prop} {v kn : Int32} {a o b ct : Nat → Int32} {c x : Nat} (hc : c ≤ 6) (hx : x < 4) (hb : ms_ok a c b) :
    ∀ d i, i + d = 2401 → post (ms_vl (ms_sol a o c) v x d i) (nI c, kn, a, o, b, ct) → wY_value_27 post v (nI x) (nI (ms_al o c)) (nI c) kn a o b ct (d + 1) (nI (ms_ct (ms_sol a o c) i)) (nI i) := by
  intro d
  induction d with
  | zero =>
    intro i hi k
    obtain rfl : i = 2401 := by omega
    exact br_t ms_end k
  | succ d ih =>
    intro i hi k
    refine br_f (ms_not (by omega)) ⟨ys_in (by omega), ?_⟩
    by_cases h : ms_sol a o c i = true
    · refine br_t (ys_cT hb (by omega) h) ?_
      by_cases e : nI (ms_ct (ms_sol a o c) i) = v
      · rw [ms_vlHit h e] at k
        exact br_t e (ys_dg (by omega) hx k)
      · rw [ms_vlMiss h e] at k
        have hn := ih (i + 1) (by omega) k
        rw [ms_ctT h] at hn
        exact br_f e (nm_r (nI_1 _) (nm_r (nI_1 i) hn))
    · rw [ms_vlNo h] at k
      have hn := ih (i + 1) (by omega) k
      rw [ms_ctF h] at hn
      exact br_f (ys_cF hc hb (by omega) h) (nm_r (nI_1 i) hn)
theorem ys_psLoop {post : Int32 → SY → Prop} {kn : Int32} {a o b ct : Nat → Int32} {c x : Nat} (hc : c ≤ 6) (hx : x < 4) (hb : ms_ok a c b)
    (k : post (nI (ms_ps a o c x 2401)) (nI c, kn, a, o, b, ct)) :
    ∀ d i, i + d = 2401 → wY_possible_25 post (nI x) (nI (ms_al o c)) (nI c) kn a o b ct (d + 1) (nI (ms_ps a o c x i)) (nI i) := by
  intro d
  induction d with
  | zero =>
    intro i hi
    obtain rfl : i = 2401 := by omega
    exact br_t ms_end k
  | succ d ih =>
    intro i hi
    have hn := ih (i + 1) (by omega)
    refine br_f (ms_not (by omega)) ⟨ys_in (by omega), ?_⟩
    by_cases h : ms_sol a o c i = true
    · have e : ms_ps a o c x (i + 1) = ms_ps a o c x i ||| 2 ^ (ms_dg i x) := ms_orT h
      rw [e] at hn
      have hd := ms_dgLt (show i < 2401 by omega) x
      exact br_t (ys_cT hb (by omega) h) (ys_dg (by omega) hx (nm_r (ms_put1 _ (by omega)) (nm_r (nI_1 i) hn)))
    · have e : ms_ps a o c x (i + 1) = ms_ps a o c x i := ms_orF h
      rw [e] at hn
      exact br_f (ys_cF hc hb (by omega) h) (nm_r (nI_1 i) hn)
theorem ys_psT {post : Int32 → SY → Prop} {kn : Int32} {a o b ct : Nat → Int32} {c x : Nat} (hc : c ≤ 6) (hx : x < 4) (hK : ¬ kn = 0 → ms_ok a c b)
    (k : ∀ kn' b', ms_ok a c b' → post (nI (ms_ps a o c x 2401)) (nI c, kn', a, o, b', ct)) : wpY_possible post (nI c, kn, a, o, b, ct) (nI x) := by
  unfold wpY_possible
  refine br_f (nI_pos (by omega)) (br_t (nI_le (b := 3) (by omega) (by decide)) ?_)
  refine ys_wo hc hK (fun kn' b' h => ?_)
  refine ys_on hc ?_
  exact ⟨2402, ys_psLoop hc hx h (k kn' b' h) 2401 0 rfl⟩
theorem ms_no3 {x : Int32} (hx : x < 0 ∨ 4 ≤ x) (h : ¬ x < 0) : ¬ x ≤ 3 := by
  intro z
  have h4 := hx.resolve_left h
  rw [Int32.le_iff_toInt_le] at h4 z
  have a4 : (4 : Int32).toInt = 4 := by decide
  have a3 : (3 : Int32).toInt = 3 := by decide
  omega
theorem ys_psF {post : Int32 → SY → Prop} {kn c x : Int32} {a o b ct : Nat → Int32} (hx : x < 0 ∨ 4 ≤ x) (k : post 0 (c, kn, a, o, b, ct)) : wpY_possible post (c, kn, a, o, b, ct) x := by
  unfold wpY_possible
  exact br_c (fun _ => k) (fun h => br_f (ms_no3 hx h) k)
/-- what fixed answers for the union m -/
def ms_fx (m : Nat) : Int32 := if ms_pc m 7 = 1 then 1 else 0
theorem ys_fxLoop {post : Int32 → SY → Prop} {kn c : Int32} {a o b ct : Nat → Int32} {m : Nat} (hm : m < 128) (k : post (ms_fx m) (c, kn, a, o, b, ct)) :
    ∀ d v, v + d = 7 → (∀ w, w < v → ¬ m = 2 ^ w) → wY_fixed_8 post (nI m) c kn a o b ct (d + 1) (nI v) := by
  intro d
  induction d with
  | zero =>
    intro v hv H
    obtain rfl : v = 7 := by omega
    rw [show ms_fx m = 0 from if_neg (ms_pcN m hm H)] at k
    exact br_t (by decide +kernel) k
  | succ d ih =>
    intro v hv H
    refine br_f (nI_ge (b := 7) (by omega) (by decide)) ?_
    rw [ms_one v (by omega)]
    have hp : 2 ^ v < 2 ^ 7 := wb_lt2 (by omega)
    refine pk_eq m (2 ^ v) (fun z => ?_) (fun z => nm_r (nI_1 v) (ih (v + 1) (by omega) (lt_s H z)))
    rw [show ms_fx m = 1 from if_pos (by rw [z]; exact ms_pc1 v (by omega))] at k
    exact k
theorem ys_rkLoop {post : Int32 → SY → Prop} {kn : Int32} {a o b ct : Nat → Int32} {c R : Nat} (hc : c ≤ 6) (hK : ¬ kn = 0 → ms_ok a c b) (hR : R < 2 ^ 31)
    (k : ∀ kn' b', ms_ok a c b' → post (nI (ms_ct (ms_sol a o c) (ms_to R 4))) (nI c, kn', a, o, b', ct)) :
    ∀ d j, j + d = 4 → wY_rank_11 post (nI c) kn a o b ct (d + 1) (nI (R / 7 ^ j)) (nI (ms_to R j)) (nI j) := by
  intro d
  induction d with
  | zero =>
    intro j hj
    obtain rfl : j = 4 := by omega
    have ht := ms_toLt R 4
    exact br_t (by decide +kernel) (ys_bf hc hK (by omega) k)
  | succ d ih =>
    intro j hj
    exact br_f (nI_ge (b := 4) (by omega) (by decide)) ⟨ms_n7, nm_r (ms_toStep hR) ⟨ms_n7, nm_r (ms_dvStep hR) (nm_r (nI_1 j) (ih (j + 1) (by omega)))⟩⟩
theorem ys_shT {a b : Nat → Int32} {c e i : Nat} (hc : c ≤ 6) (he : e < c) (hb : ms_ok a c b) (hi : i < 2401) (h : ms_bad a e i = true) : (b (nI i).toNatClampNeg >>> (nI e &&& 31)) &&& 1 = 1 := by
  have h6 := ms_by64 hc a i
  have t : (ms_by a c i).testBit e = true := by
    unfold ms_by
    rw [ms_tb, decide_eq_true he, h]; rfl
  rw [Nat.testBit_eq_decide_div_mod_eq] at t
  rw [ms_cl hi, hb i hi, ms_sbit (by omega) (by omega), of_decide_eq_true t]; rfl
theorem ys_shF {a b : Nat → Int32} {c e i : Nat} (hc : c ≤ 6) (he : e < c) (hb : ms_ok a c b) (hi : i < 2401) (h : ¬ ms_bad a e i = true) : ¬ (b (nI i).toNatClampNeg >>> (nI e &&& 31)) &&& 1 = 1 := by
  have h6 := ms_by64 hc a i
  have t : ¬ (ms_by a c i).testBit e = true := by
    unfold ms_by
    rw [ms_tb, decide_eq_true he, Bool.true_and]
    exact h
  rw [Nat.testBit_eq_decide_div_mod_eq, decide_eq_true_eq] at t
  rw [ms_cl hi, hb i hi, ms_sbit (by omega) (by omega)]
  have h0 : ms_by a c i / 2 ^ e % 2 = 0 := by
    generalize ms_by a c i / 2 ^ e = z at t
    omega
  rw [h0]; decide
theorem ys_foLoop {post : Int32 → SY → Prop} {kn : Int32} {a o b ct : Nat → Int32} {c e : Nat} (hc : c ≤ 6) (he : e < c) (hb : ms_ok a c b) :
    ∀ d i, i + d = 2401 → post (ms_fo (ms_sol a o c) (fun i => ms_bad a e i) d i) (nI c, kn, a, o, b, ct) → wY_follows_21 post (nI e) (nI (ms_al o c)) (nI c) kn a o b ct (d + 1) (nI i) := by
  intro d
  induction d with
  | zero =>
    intro i hi k
    obtain rfl : i = 2401 := by omega
    exact br_t ms_end k
  | succ d ih =>
    intro i hi k
    refine br_f (ms_not (by omega)) ⟨ys_in (by omega), ?_⟩
    by_cases h : ms_sol a o c i = true
    · refine br_t (ys_cT hb (by omega) h) ⟨ys_in (by omega), ?_⟩
      by_cases z : ms_bad a e i = true
      · rw [ms_foHit h z] at k
        exact br_t (ys_shT hc he hb (by omega) z) k
      · rw [ms_foNo (fun y => z y.2)] at k
        exact br_f (ys_shF hc he hb (by omega) z) (nm_r (nI_1 i) (ih (i + 1) (by omega) k))
    · rw [ms_foNo (fun y => h y.1)] at k
      exact br_f (ys_cF hc hb (by omega) h) (nm_r (nI_1 i) (ih (i + 1) (by omega) k))
/-! needed -/
theorem ys_meLoop {post : Int32 → Prop} {kn c : Int32} {a o b ct : Nat → Int32} {s : Nat} {f : Nat → Nat} (hs : s < 64) (hf : ∀ m, m < 64 → ct m = nI (f m)) (k : post (nI (ms_sm (fun m => decide (m &&& s = 0)) f 64))) :
    ∀ d m, m + d = 64 → wY_meeting_4 post (nI s) c kn a o b ct (d + 1) (nI (ms_sm (fun m => decide (m &&& s = 0)) f m)) (nI m) := by
  intro d
  induction d with
  | zero =>
    intro m hm
    obtain rfl : m = 64 := by omega
    exact br_t (by decide +kernel) k
  | succ d ih =>
    intro m hm
    have hn := ih (m + 1) (by omega)
    have hl : m &&& s < 64 := Nat.and_lt_two_pow (n := 6) m hs
    refine br_f (nI_ge (b := 64) (by omega) (by decide)) (pk_eq (m &&& s) 0 (fun z => ?_) (fun z => ?_) (nx_and m s))
    · rw [ms_smT (decide_eq_true z)] at hn
      refine ⟨vp_in_nI (by omega) (by decide), nm_r ?_ (nm_r (nI_1 m) hn)⟩
      rw [nI_clamp (by omega), hf m (by omega), nI_add]
    · rw [ms_smF (fun y => z (of_decide_eq_true y))] at hn
      exact nm_r (nI_1 m) hn
theorem ys_me {post : Int32 → Prop} {kn c : Int32} {a o b ct : Nat → Int32} {s : Nat} {f : Nat → Nat} (hs : s < 64) (hf : ∀ m, m < 64 → ct m = nI (f m)) (k : post (nI (ms_sm (fun m => decide (m &&& s = 0)) f 64))) : wpY_meeting post (c, kn, a, o, b, ct) (nI s) := by
  unfold wpY_meeting
  exact ⟨65, ys_meLoop hs hf k 64 0 rfl⟩
/-- how many points meet nothing of s -/
def ms_fr (B : Nat → Nat) (s : Nat) : Nat := ms_ct (fun i => decide (B i &&& s = 0)) 2401
theorem ys_mt {post : Int32 → Prop} {kn c : Int32} {a o b ct : Nat → Int32} {s : Nat} {B : Nat → Nat} (hs : s < 64) (hB : ∀ i, B i < 64) (hf : ∀ m, m < 64 → ct m = nI (ms_cn B 2401 m)) (k : post (nI (ms_fr B s))) : wpY_meeting post (c, kn, a, o, b, ct) (nI s) := by
  refine ys_me hs hf ?_
  rw [ms_smCn _ B 64 2401 (fun i _ => hB i)]
  exact k
theorem ys_szLoop {post : Int32 → SY → Prop} {J : Int32 → Int32 → Prop} {x1 x2 x3 kn c : Int32} {a o b ct : Nat → Int32} {s : Nat} (hs : s < 64)
    (k : wY_needed_100 post J x1 x2 x3 (nI s) c kn a o b ct 1 (nI (ms_pc s 6)) (nI 6)) :
    ∀ d q, q + d = 6 → wY_needed_100 post J x1 x2 x3 (nI s) c kn a o b ct (d + 1) (nI (ms_pc s q)) (nI q) := by
  intro d
  induction d with
  | zero =>
    intro q hq
    obtain rfl : q = 6 := by omega
    exact k
  | succ d ih =>
    intro q hq
    have e : nI (ms_pc s q) + ((nI s >>> (nI q &&& 31)) &&& 1) = nI (ms_pc s (q + 1)) := by
      rw [ms_sbit (by omega) (by omega), nI_add]; rfl
    exact br_f (nI_ge (b := 6) (by omega) (by decide)) (nm_r e (nm_r (nI_1 q) (ih (q + 1) (by omega))))
theorem ys_ndLoop {post : Int32 → SY → Prop} {kn c : Int32} {a o b ct : Nat → Int32} {A : Nat} {B : Nat → Nat} (hA : A < 64) (hB : ∀ i, B i < 64) (hf : ∀ m, m < 64 → ct m = nI (ms_cn B 2401 m))
    (k : post (nI (ms_mn (ms_yo B A) 64)) (c, kn, a, o, b, ct)) :
    ∀ d s, s + d = 64 → wY_needed_87 post (nI A) (nI (ms_fr B A)) c kn a o b ct (d + 1) (nI (ms_mn (ms_yo B A) s)) (nI s) := by
  intro d
  induction d with
  | zero =>
    intro s hs
    obtain rfl : s = 64 := by omega
    exact br_t (by decide +kernel) k
  | succ d ih =>
    intro s hs
    have hn := ih (s + 1) (by omega)
    have h6 := ms_mn6 (ms_yo B A) s
    have hpc := ms_pcLe s 6
    have f1 : ms_fr B s ≤ 2401 := ms_ctLe _ _
    have f2 : ms_fr B A ≤ 2401 := ms_ctLe _ _
    refine br_f (nI_ge (b := 64) (by omega) (by decide)) ⟨7, ys_szLoop (by omega) ?_ 6 0 rfl⟩
    refine br_t (by decide +kernel) ?_
    by_cases z : s &&& A = s
    · refine br_t ((ms_sub64 A hA s (by omega)).mpr z) ?_
      refine pk_le (ms_mn (ms_yo B A) s) (ms_pc s 6) (fun h => ?_) (fun h => ys_mt (by omega) hB hf ?_)
      · rw [ms_mnF (fun y => absurd y.1 (by omega))] at hn
        exact nm_r (nI_1 s) hn
      · refine pk_eq (ms_fr B s) (ms_fr B A) (fun y => ?_) (fun y => ?_)
        · have t : ms_yo B A s = true := by
            unfold ms_yo
            rw [decide_eq_true z, Bool.true_and]
            exact decide_eq_true y
          rw [ms_mnT h t] at hn
          exact nm_r (nI_1 s) hn
        · have t : ¬ ms_yo B A s = true := by
            unfold ms_yo
            rw [decide_eq_true z, Bool.true_and]
            exact fun w => y (of_decide_eq_true w)
          rw [ms_mnF (fun w => t w.2)] at hn
          exact nm_r (nI_1 s) hn
    · refine br_f (fun y => z ((ms_sub64 A hA s (by omega)).mp y)) ?_
      have t : ¬ ms_yo B A s = true := by
        unfold ms_yo
        rw [Bool.and_eq_true, decide_eq_true_eq]
        exact fun w => z w.1
      rw [ms_mnF (fun w => t w.2)] at hn
      exact nm_r (nI_1 s) hn
theorem ms_a63 {m : Nat} (h : m < 64) : nI m &&& 63 = nI m := by
  rw [pk_andN (m := 63) (by omega) 6 (by decide), Nat.mod_eq_of_lt h]
theorem ys_cnLoop {post : Int32 → SY → Prop} {kn : Int32} {a o b : Nat → Int32} {c : Nat} (hc : c ≤ 6) (hb : ms_ok a c b)
    (k : ∀ ct, post (nI (ms_mn (ms_yo (ms_by a c) (ms_al o c)) 64)) (nI c, kn, a, o, b, ct)) :
    ∀ d i ct, i + d = 2401 → (∀ m, m < 64 → ct m = nI (ms_cn (ms_by a c) i m)) → wY_needed_27 post (nI c) kn (d + 1) (nI i) a o b ct := by
  intro d
  induction d with
  | zero =>
    intro i ct hi hf
    obtain rfl : i = 2401 := by omega
    refine br_t ms_end (ys_on hc ?_)
    refine ys_mt (ms_al64 hc o) (ms_by64 hc a) hf ?_
    exact ⟨65, ys_ndLoop (ms_al64 hc o) (ms_by64 hc a) hf (k ct) 64 0 rfl⟩
  | succ d ih =>
    intro i ct hi hf
    have h6 := ms_by64 hc a i
    have e : b (nI i).toNatClampNeg &&& 63 = nI (ms_by a c i) := by rw [ms_cl (by omega), hb i (by omega), ms_a63 h6]
    have hin : vp_in (b (nI i).toNatClampNeg &&& 63) 64 := by rw [e]; exact vp_in_nI h6 (by decide)
    have ecl : (b (nI i).toNatClampNeg &&& 63).toNatClampNeg = ms_by a c i := by rw [e]; exact nI_clamp (by omega)
    refine br_f (ms_not (by omega)) ⟨ys_in (by omega), ys_in (by omega), hin, hin, nm_e (nm_r (nI_1 i) (ih (i + 1) _ (by omega) ?_))⟩
    rw [ecl]
    intro m hm
    rw [ms_cnS]
    by_cases z : ms_by a c i = m
    · subst z
      rw [pk_us, if_pos rfl, hf _ h6, nI_1]
    · rw [pk_un (fun y => z y.symm), if_neg z, Nat.add_zero]
      exact hf m hm
theorem ys_zrLoop {post : Int32 → SY → Prop} {kn : Int32} {a o b : Nat → Int32} {c : Nat} (hc : c ≤ 6) (hb : ms_ok a c b)
    (k : ∀ ct, post (nI (ms_mn (ms_yo (ms_by a c) (ms_al o c)) 64)) (nI c, kn, a, o, b, ct)) :
    ∀ d m ct, m + d = 64 → (∀ j, j < m → ct j = 0) → wY_needed_6 post (nI c) kn (d + 1) (nI m) a o b ct := by
  intro d
  induction d with
  | zero =>
    intro m ct hm hf
    obtain rfl : m = 64 := by omega
    exact br_t (by decide +kernel) ⟨2402, ys_cnLoop hc hb k 2401 0 ct rfl (fun j hj => (hf j hj).trans nI_0.symm)⟩
  | succ d ih =>
    intro m ct hm hf
    refine br_f (nI_ge (b := 64) (by omega) (by decide)) ⟨vp_in_nI (by omega) (by decide), nm_e (nm_r (nI_1 m) (ih (m + 1) _ (by omega) ?_))⟩
    rw [nI_clamp (show m < 2 ^ 31 by omega)]
    refine lt_s (fun j hj => ?_) pk_us
    rw [pk_un (by omega)]
    exact hf j hj
theorem ys_nd {post : Int32 → SY → Prop} {kn : Int32} {a o b ct : Nat → Int32} {c : Nat} (hc : c ≤ 6) (hK : ¬ kn = 0 → ms_ok a c b)
    (k : ∀ kn' b' ct', ms_ok a c b' → post (nI (ms_mn (ms_yo (ms_by a c) (ms_al o c)) 64)) (nI c, kn', a, o, b', ct')) : wpY_needed post (nI c, kn, a, o, b, ct) := by
  unfold wpY_needed
  refine ys_wo hc hK (fun kn' b' h => ?_)
  exact ⟨65, ys_zrLoop hc h (fun ct' => k kn' b' ct' h) 64 0 ct rfl (fun j hj => absurd hj (Nat.not_lt_zero j))⟩
