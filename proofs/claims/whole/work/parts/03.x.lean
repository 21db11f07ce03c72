/-! X's own methods, each with a general post -/
theorem ms_n7 : ¬ (7 : Int32) = 0 := by decide
theorem ms_n49 : ¬ (49 : Int32) = 0 := by decide
theorem ms_n343 : ¬ (343 : Int32) = 0 := by decide
theorem ms_end : (2401 : Int32) ≤ nI 2401 := by decide +kernel
theorem ms_not {i : Nat} (h : i < 2401) : ¬ (2401 : Int32) ≤ nI i := nI_ge (b := 2401) h (by decide)
theorem ms_cl {i : Nat} (h : i < 2401) : (nI i).toNatClampNeg = i := nI_clamp (by omega)
theorem ms_m5 (e : Nat) : nI e * 5 = nI (e * 5) := pk_mul e 5
theorem ms_bx64 {c : Nat} (hc : c ≤ 6) (a o : Nat → Int32) (i : Nat) : ms_bx a o c i < 64 := ms_mk64 _ hc
theorem ms_by64 {c : Nat} (hc : c ≤ 6) (a : Nat → Int32) (i : Nat) : ms_by a c i < 64 := ms_mk64 _ hc
theorem ms_al64 {c : Nat} (hc : c ≤ 6) (o : Nat → Int32) : ms_al o c < 64 := ms_mk64 _ hc
theorem ms_sT {a o : Nat → Int32} {c i : Nat} (h : ms_sol a o c i = true) : nI (ms_bx a o c i) = 0 := by
  have h0 : ms_bx a o c i = 0 := of_decide_eq_true h
  rw [h0, nI_0]
theorem ms_sF {a o : Nat → Int32} {c i : Nat} (hc : c ≤ 6) (h : ¬ ms_sol a o c i = true) : ¬ nI (ms_bx a o c i) = 0 := by
  have h0 : ¬ ms_bx a o c i = 0 := fun z => h (decide_eq_true z)
  have hb := ms_bx64 hc a o i
  exact nI_ne0 (by omega) (by omega)
theorem xs_hStep {post : Int32 → Prop} {c y s : Int32} {a o : Nat → Int32} {n e j r : Nat} (he : e < 6) (hj : j < 4) (hr : r < 2 ^ 31) (hy : nI j + (-1) = y)
    (k : wX_holds_13 post (nI (e * 5)) c a o n (s + a (e * 5 + j) * nI (r % 7)) (nI (r / 7)) y) : wX_holds_13 post (nI (e * 5)) c a o (n + 1) s (nI r) (nI j) := by
  have hx : nI (e * 5) + nI j = nI (e * 5 + j) := nI_add _ _
  have hin : vp_in (nI (e * 5) + nI j) 30 := by rw [hx]; exact vp_in_nI (by omega) (by decide)
  have hc : (nI (e * 5) + nI j).toNatClampNeg = e * 5 + j := by rw [hx]; exact nI_clamp (by omega)
  refine br_f (nI_pos (by omega)) ⟨hin, ms_n7, nm_r (e' := s + a (e * 5 + j) * nI (r % 7)) ?_ ⟨ms_n7, nm_r (ms_d7 hr) (nm_r hy k)⟩⟩
  rw [hc, ms_r7 hr]
theorem xs_hSum (a : Nat → Int32) (e : Nat) {i : Nat} (hi : i < 2401) : 0 + a (e * 5 + 3) * nI (i % 7) + a (e * 5 + 2) * nI (i / 7 % 7) + a (e * 5 + 1) * nI (i / 7 / 7 % 7) + a (e * 5 + 0) * nI (i / 7 / 7 / 7 % 7) = ms_sum a e i := by
  have h1 : i / 7 / 7 % 7 = i / 49 % 7 := by omega
  have h2 : i / 7 / 7 / 7 % 7 = i / 343 := by omega
  unfold ms_sum
  rw [h1, h2, Nat.add_zero, Int32.zero_add]
  ac_rfl
theorem xs_holds {post : Int32 → Prop} {c : Int32} {a o : Nat → Int32} {e i : Nat} (he : e < 6) (hi : i < 2401) (k : post (if ms_bad a e i = true then 0 else 1)) : wpX_holds post (c, a, o) (nI e) (nI i) := by
  unfold wpX_holds
  refine nm_r (ms_m5 e) ⟨5, ?_⟩
  refine xs_hStep (j := 3) he (by decide) (by omega) (pk_m1 2) ?_
  refine xs_hStep (j := 2) he (by decide) (by omega) (pk_m1 1) ?_
  refine xs_hStep (j := 1) he (by decide) (by omega) (pk_m1 0) ?_
  refine xs_hStep (j := 0) (y := -1) he (by decide) (by omega) (by decide +kernel) ?_
  rw [xs_hSum a e hi]
  have hx : nI (e * 5) + 4 = nI (e * 5 + 4) := nI_add (e * 5) 4
  have hin : vp_in (nI (e * 5) + 4) 30 := by rw [hx]; exact vp_in_nI (by omega) (by decide)
  have hc : (nI (e * 5) + 4).toNatClampNeg = e * 5 + 4 := by rw [hx]; exact nI_clamp (by omega)
  refine br_t (by decide) ⟨ms_n7, hin, ?_⟩
  rw [hc]
  by_cases h : ms_sum a e i - ms_sum a e i / 7 * 7 = a (e * 5 + 4)
  · have hb : ¬ ms_bad a e i = true := fun z => (of_decide_eq_true z) h
    rw [if_neg hb] at k
    exact br_t h k
  · have hb : ms_bad a e i = true := decide_eq_true h
    rw [if_pos hb] at k
    exact br_f h k
theorem xs_brLoop {post : Int32 → Prop} {a o : Nat → Int32} {c i : Nat} (hc : c ≤ 6) (hi : i < 2401) (k : post (nI (ms_bx a o c i))) :
    ∀ d q, q + d = c → wX_brokenAt_4 post (nI i) (nI c) a o (d + 1) (nI (ms_bx a o q i)) (nI q) := by
  intro d
  induction d with
  | zero =>
    intro q hq
    obtain rfl : q = c := by omega
    exact br_t (nI_le (Nat.le_refl _) (by omega)) k
  | succ d ih =>
    intro q hq
    have h : ¬ nI c ≤ nI q := nI_ge (by omega) (by omega)
    have hin : vp_in (nI q) 6 := vp_in_nI (by omega) (by decide)
    have hcl : (nI q).toNatClampNeg = q := nI_clamp (by omega)
    have hn := ih (q + 1) (by omega)
    by_cases z : o q = 0
    · have hp : ¬ (fun q => ms_on o q && ms_bad a q i) q = true := by simp [ms_on, z]
      have e : ms_bx a o (q + 1) i = ms_bx a o q i := ms_mkF hp
      rw [e] at hn
      exact br_f h ⟨hin, br_t (by rw [hcl]; exact z) (nm_r (nI_1 q) hn)⟩
    · have hz : ¬ o (nI q).toNatClampNeg = 0 := by rw [hcl]; exact z
      refine br_f h ⟨hin, br_f hz (xs_holds (by omega) hi ?_)⟩
      by_cases b : ms_bad a q i = true
      · have hp : (fun q => ms_on o q && ms_bad a q i) q = true := by simp [ms_on, z, b]
        have e : ms_bx a o (q + 1) i = ms_bx a o q i ||| 2 ^ q := ms_mkT hp
        rw [e] at hn
        rw [if_pos b]
        exact br_t rfl (nm_r (ms_put1 _ (by omega)) (nm_r (nI_1 q) hn))
      · have hp : ¬ (fun q => ms_on o q && ms_bad a q i) q = true := by simp [b]
        have e : ms_bx a o (q + 1) i = ms_bx a o q i := ms_mkF hp
        rw [e] at hn
        rw [if_neg b]
        exact br_f (by decide) (nm_r (nI_1 q) hn)
theorem xs_broken {post : Int32 → Prop} {a o : Nat → Int32} {c i : Nat} (hc : c ≤ 6) (hi : i < 2401) (k : post (nI (ms_bx a o c i))) : wpX_brokenAt post (nI c, a, o) (nI i) := by
  unfold wpX_brokenAt
  exact ⟨c + 1, xs_brLoop hc hi k c 0 (by omega)⟩
theorem xs_sol {post : Int32 → Prop} {a o : Nat → Int32} {c i : Nat} (hc : c ≤ 6) (hi : i < 2401) (k : post (if ms_sol a o c i = true then 1 else 0)) : wpX_isSolution post (nI c, a, o) (nI i) := by
  unfold wpX_isSolution
  refine xs_broken hc hi ?_
  by_cases h : ms_sol a o c i = true
  · rw [if_pos h] at k
    exact br_t (ms_sT h) k
  · rw [if_neg h] at k
    exact br_f (ms_sF hc h) k
theorem xs_sbLoop {post : Int32 → Prop} {a o : Nat → Int32} {c t : Nat} (hc : c ≤ 6) (ht : t ≤ 2401) (k : post (nI (ms_ct (ms_sol a o c) t))) :
    ∀ d i, i + d = t → wX_solutionsBefore_4 post (nI t) (nI c) a o (d + 1) (nI (ms_ct (ms_sol a o c) i)) (nI i) := by
  intro d
  induction d with
  | zero =>
    intro i hi
    obtain rfl : i = t := by omega
    exact pk_le 2401 i (fun _ => k) (fun _ => br_t (nI_le (Nat.le_refl _) (by omega)) k)
  | succ d ih =>
    intro i hi
    have hn := ih (i + 1) (by omega)
    refine br_f (ms_not (by omega)) (br_f (nI_ge (by omega) (by omega)) (xs_sol hc (by omega) ?_))
    by_cases h : ms_sol a o c i = true
    · rw [ms_ctT h] at hn
      rw [if_pos h]
      exact br_f (by decide) (nm_r (nI_1 _) (nm_r (nI_1 i) hn))
    · rw [ms_ctF h] at hn
      rw [if_neg h]
      exact br_t rfl (nm_r (nI_1 i) hn)
theorem xs_sb {post : Int32 → Prop} {a o : Nat → Int32} {c t : Nat} (hc : c ≤ 6) (ht : t ≤ 2401) (k : post (nI (ms_ct (ms_sol a o c) t))) : wpX_solutionsBefore post (nI c, a, o) (nI t) := by
  unfold wpX_solutionsBefore
  exact ⟨t + 1, xs_sbLoop hc ht k t 0 (by omega)⟩
theorem xs_unkT {post : Int32 → Prop} {c : Int32} {a o : Nat → Int32} {x : Nat} (hx : x < 4) (k : post 1) : wpX_isUnknown post (c, a, o) (nI x) := by
  unfold wpX_isUnknown
  exact br_f (nI_pos (by omega)) (br_f (nI_ge (b := 4) hx (by decide)) k)
theorem xs_unkF {post : Int32 → Prop} {c : Int32} {a o : Nat → Int32} {x : Int32} (hx : x < 0 ∨ 4 ≤ x) (k : post 0) : wpX_isUnknown post (c, a, o) x := by
  unfold wpX_isUnknown
  exact br_c (fun _ => k) (fun h => br_t (hx.resolve_left h) k)
theorem xs_cLoop {post : Int32 → Prop} {c : Int32} {a o : Nat → Int32} (x : Nat) (hx : x < 4) :
    ∀ d r, d < 4 → r < 2 ^ 31 → post (nI (r / 7 ^ d % 7)) → wX_coordinate_5 post (nI x) c a o (d + 1) (nI r) (nI (x + d)) := by
  intro d
  induction d with
  | zero =>
    intro r _ hr k
    rw [Nat.pow_zero, Nat.div_one] at k
    refine br_t (nI_le (by omega) (by omega)) ⟨ms_n7, ?_⟩
    rw [ms_r7 hr]
    exact k
  | succ d ih =>
    intro r hd hr k
    have h7 : r / 7 < 2 ^ 31 := by omega
    have e : r / 7 / 7 ^ d = r / 7 ^ (d + 1) := by rw [Nat.div_div_eq_div_mul, Nat.pow_succ, Nat.mul_comm]
    refine br_f (nI_ge (by omega) (by omega)) ⟨ms_n7, nm_r (ms_d7 hr) (nm_r (pk_m1 (x + d)) (ih (r / 7) (by omega) h7 ?_))⟩
    rw [e]
    exact k
theorem xs_coord {post : Int32 → Prop} {c : Int32} {a o : Nat → Int32} {i x : Nat} (hi : i < 2401) (hx : x < 4) (k : post (nI (ms_dg i x))) : wpX_coordinate post (c, a, o) (nI i) (nI x) := by
  unfold wpX_coordinate
  have h4 : x = 0 ∨ x = 1 ∨ x = 2 ∨ x = 3 := by omega
  rcases h4 with rfl | rfl | rfl | rfl
  · refine ⟨4, xs_cLoop 0 (by decide) 3 i (by decide) (by omega) ?_⟩
    rw [show i / 7 ^ 3 % 7 = ms_dg i 0 from by show i / 343 % 7 = i / 343; omega]
    exact k
  · exact ⟨3, xs_cLoop 1 (by decide) 2 i (by decide) (by omega) k⟩
  · exact ⟨2, xs_cLoop 2 (by decide) 1 i (by decide) (by omega) k⟩
  · refine ⟨1, xs_cLoop 3 (by decide) 0 i (by decide) (by omega) ?_⟩
    rw [show i / 7 ^ 0 % 7 = ms_dg i 3 from by show i / 1 % 7 = i % 7; omega]
    exact k
theorem xs_vlLoop {post : Int32 → Prop} {v : Int32} {a o : Nat → Int32} {c x : Nat} (hc : c ≤ 6) (hx : x < 4) :
    ∀ d i, i + d = 2401 → post (ms_vl (ms_sol a o c) v x d i) → wX_value_20 post v (nI x) (nI c) a o (d + 1) (nI (ms_ct (ms_sol a o c) i)) (nI i) := by
  intro d
  induction d with
  | zero =>
    intro i hi k
    obtain rfl : i = 2401 := by omega
    exact br_t ms_end k
  | succ d ih =>
    intro i hi k
    refine br_f (ms_not (by omega)) (xs_sol hc (by omega) ?_)
    by_cases h : ms_sol a o c i = true
    · rw [if_pos h]
      by_cases e : nI (ms_ct (ms_sol a o c) i) = v
      · rw [ms_vlHit h e] at k
        exact br_f (by decide) (br_t e (xs_coord (by omega) hx k))
      · rw [ms_vlMiss h e] at k
        have hn := ih (i + 1) (by omega) k
        rw [ms_ctT h] at hn
        exact br_f (by decide) (br_f e (nm_r (nI_1 _) (nm_r (nI_1 i) hn)))
    · rw [ms_vlNo h] at k
      have hn := ih (i + 1) (by omega) k
      rw [ms_ctF h] at hn
      rw [if_neg h]
      exact br_t rfl (nm_r (nI_1 i) hn)
/-- the union of what unknown x is in the solutions -/
def ms_ps (a o : Nat → Int32) (c x n : Nat) : Nat := ms_or (ms_sol a o c) (fun i => ms_dg i x) n
theorem ms_psLt (a o : Nat → Int32) (c x : Nat) : ms_ps a o c x 2401 < 128 := ms_orLt _ _ 7 2401 (fun _ hi => ms_dgLt hi x)
theorem xs_psLoop {post : Int32 → Prop} {a o : Nat → Int32} {c x : Nat} (hc : c ≤ 6) (hx : x < 4) (k : post (nI (ms_ps a o c x 2401))) :
    ∀ d i, i + d = 2401 → wX_valuesInSolutions_4 post (nI x) (nI c) a o (d + 1) (nI (ms_ps a o c x i)) (nI i) := by
  intro d
  induction d with
  | zero =>
    intro i hi
    obtain rfl : i = 2401 := by omega
    exact br_t ms_end k
  | succ d ih =>
    intro i hi
    have hn := ih (i + 1) (by omega)
    refine br_f (ms_not (by omega)) (xs_sol hc (by omega) ?_)
    by_cases h : ms_sol a o c i = true
    · have e : ms_ps a o c x (i + 1) = ms_ps a o c x i ||| 2 ^ (ms_dg i x) := ms_orT h
      rw [e] at hn
      have hd := ms_dgLt (show i < 2401 by omega) x
      rw [if_pos h]
      exact br_f (by decide) (xs_coord (by omega) hx (nm_r (ms_put1 _ (by omega)) (nm_r (nI_1 i) hn)))
    · have e : ms_ps a o c x (i + 1) = ms_ps a o c x i := ms_orF h
      rw [e] at hn
      rw [if_neg h]
      exact br_t rfl (nm_r (nI_1 i) hn)
theorem xs_ps {post : Int32 → Prop} {a o : Nat → Int32} {c x : Nat} (hc : c ≤ 6) (hx : x < 4) (k : post (nI (ms_ps a o c x 2401))) : wpX_valuesInSolutions post (nI c, a, o) (nI x) := by
  unfold wpX_valuesInSolutions
  exact ⟨2402, xs_psLoop hc hx k 2401 0 rfl⟩
theorem xs_bitLoop {post : Int32 → Prop} {c : Int32} {a o : Nat → Int32} {m : Nat} (hm : m < 2 ^ 31) (k : post (nI (ms_pc m 7))) :
    ∀ d b, b + d = 7 → wX_bitCount_4 post (nI m) c a o (d + 1) (nI (ms_pc m b)) (nI b) := by
  intro d
  induction d with
  | zero =>
    intro b hb
    obtain rfl : b = 7 := by omega
    exact br_t (by decide +kernel) k
  | succ d ih =>
    intro b hb
    have e : nI (ms_pc m b) + (((nI m).toUInt32 >>> ((nI b).toUInt32 &&& Int32.toUInt32 31)).toInt32 &&& 1) = nI (ms_pc m (b + 1)) := by
      rw [ms_ubit hm (by omega), nI_add]; rfl
    exact br_f (nI_ge (b := 7) (by omega) (by decide)) (nm_r e (nm_r (nI_1 b) (ih (b + 1) (by omega))))
theorem xs_bit {post : Int32 → Prop} {c : Int32} {a o : Nat → Int32} {m : Nat} (hm : m < 2 ^ 31) (k : post (nI (ms_pc m 7))) : wpX_bitCount post (c, a, o) (nI m) := by
  unfold wpX_bitCount
  exact ⟨8, xs_bitLoop hm k 7 0 rfl⟩
theorem ms_toStep {R j : Nat} (h : R < 2 ^ 31) : nI (ms_to R j) * 7 + (nI (R / 7 ^ j) - nI (R / 7 ^ j) / 7 * 7) = nI (ms_to R (j + 1)) := by
  rw [ms_r7 (ms_dvLt h j), show nI (ms_to R j) * 7 = nI (ms_to R j * 7) from pk_mul _ 7, nI_add]; rfl
theorem ms_dvStep {R j : Nat} (h : R < 2 ^ 31) : nI (R / 7 ^ j) / 7 = nI (R / 7 ^ (j + 1)) := by rw [ms_d7 (ms_dvLt h j), ms_dv]
theorem xs_rkLoop {post : Int32 → Prop} {a o : Nat → Int32} {c R : Nat} (hc : c ≤ 6) (hR : R < 2 ^ 31) (k : post (nI (ms_ct (ms_sol a o c) (ms_to R 4)))) :
    ∀ d j, j + d = 4 → wX_rank_10 post (nI c) a o (d + 1) (nI (R / 7 ^ j)) (nI (ms_to R j)) (nI j) := by
  intro d
  induction d with
  | zero =>
    intro j hj
    obtain rfl : j = 4 := by omega
    have ht := ms_toLt R 4
    exact br_t (by decide +kernel) (xs_sb hc (by omega) k)
  | succ d ih =>
    intro j hj
    exact br_f (nI_ge (b := 4) (by omega) (by decide)) ⟨ms_n7, nm_r (ms_toStep hR) ⟨ms_n7, nm_r (ms_dvStep hR) (nm_r (nI_1 j) (ih (j + 1) (by omega)))⟩⟩
theorem xs_foLoop {post : Int32 → Prop} {a o : Nat → Int32} {c e : Nat} (hc : c ≤ 6) (he : e < 6) :
    ∀ d i, i + d = 2401 → post (ms_fo (ms_sol a o c) (fun i => ms_bad a e i) d i) → wX_follows_12 post (nI e) (nI c) a o (d + 1) (nI i) := by
  intro d
  induction d with
  | zero =>
    intro i hi k
    obtain rfl : i = 2401 := by omega
    exact br_t ms_end k
  | succ d ih =>
    intro i hi k
    refine br_f (ms_not (by omega)) (xs_sol hc (by omega) ?_)
    by_cases h : ms_sol a o c i = true
    · rw [if_pos h]
      refine br_f (by decide) (xs_holds he (by omega) ?_)
      by_cases b : ms_bad a e i = true
      · rw [ms_foHit h b] at k
        rw [if_pos b]
        exact br_t rfl k
      · rw [ms_foNo (fun z => b z.2)] at k
        rw [if_neg b]
        exact br_f (by decide) (nm_r (nI_1 i) (ih (i + 1) (by omega) k))
    · rw [ms_foNo (fun z => h z.1)] at k
      rw [if_neg h]
      exact br_t rfl (nm_r (nI_1 i) (ih (i + 1) (by omega) k))
theorem ms_one64 {k : Nat} (hk : k < 64) : (1 : Int64) <<< ((nI k).toInt64 &&& 63) = lN (2 ^ k) := by
  have h := wb_shl 1 hk
  rw [Nat.one_mul] at h
  exact h
theorem ms_ptLt {a o : Nat → Int32} {c : Nat} (hc : c ≤ 6) (n : Nat) : ms_or (fun _ => true) (ms_bx a o c) n < 2 ^ 64 := ms_orLt _ _ 64 n (fun i _ => ms_bx64 hc a o i)
theorem xs_ptLoop {post : Int64 → Prop} {a o : Nat → Int32} {c : Nat} (hc : c ≤ 6) (k : post (lN (ms_or (fun _ => true) (ms_bx a o c) 2401))) :
    ∀ d i, i + d = 2401 → wX_brokenPatterns_4 post (nI c) a o (d + 1) (lN (ms_or (fun _ => true) (ms_bx a o c) i)) (nI i) := by
  intro d
  induction d with
  | zero =>
    intro i hi
    obtain rfl : i = 2401 := by omega
    exact br_t ms_end k
  | succ d ih =>
    intro i hi
    have hn := ih (i + 1) (by omega)
    rw [ms_orT (p := fun _ => true) rfl] at hn
    have hb := ms_bx64 hc a o i
    have e : lN (ms_or (fun _ => true) (ms_bx a o c) i) ||| ((1 : Int64) <<< ((nI (ms_bx a o c i)).toInt64 &&& 63)) = lN (ms_or (fun _ => true) (ms_bx a o c) i ||| 2 ^ (ms_bx a o c i)) := by
      rw [ms_one64 hb, wb_or (ms_ptLt hc i) (wb_lt2 hb)]
    exact br_f (ms_not (by omega)) (xs_broken hc (by omega) (nm_r e (nm_r (nI_1 i) hn)))
theorem xs_pt {post : Int64 → Prop} {a o : Nat → Int32} {c : Nat} (hc : c ≤ 6) (k : post (lN (ms_or (fun _ => true) (ms_bx a o c) 2401))) : wpX_brokenPatterns post (nI c, a, o) := by
  unfold wpX_brokenPatterns
  exact ⟨2402, xs_ptLoop hc k 2401 0 rfl⟩
theorem ms_lbT {p m : Nat} (hp : p < 2 ^ 64) (hm : m < 64) (t : p.testBit m = true) : ((lN p).toUInt64 >>> ((nI m).toInt64.toUInt64 &&& Int64.toUInt64 63)).toInt64 &&& 1 = 1 := by
  rw [Nat.testBit_eq_decide_div_mod_eq] at t
  rw [wb_bit hp hm, of_decide_eq_true t]; rfl
theorem ms_lbF {p m : Nat} (hp : p < 2 ^ 64) (hm : m < 64) (t : ¬ p.testBit m = true) : ¬ ((lN p).toUInt64 >>> ((nI m).toInt64.toUInt64 &&& Int64.toUInt64 63)).toInt64 &&& 1 = 1 := by
  rw [Nat.testBit_eq_decide_div_mod_eq, decide_eq_true_eq] at t
  rw [wb_bit hp hm]
  have h0 : p / 2 ^ m % 2 = 0 := by
    generalize p / 2 ^ m = z at t
    omega
  rw [h0]; decide
theorem xs_koLoop {post : Int32 → Prop} {c : Int32} {a o : Nat → Int32} {p s : Nat} (hp : p < 2 ^ 64) (hs : s < 64) (k : post (if ms_ko p s = true then 1 else 0)) :
    ∀ d m, m + d = 64 → 1 ≤ m → (∀ j, j < m → 1 ≤ j → p.testBit j = true → ¬ j &&& s = 0) → wX_keepsOut_3 post (nI s) (lN p) c a o (d + 1) (nI m) := by
  intro d
  induction d with
  | zero =>
    intro m hm _ H
    obtain rfl : m = 64 := by omega
    rw [if_pos ((ms_koI p s).mpr H)] at k
    exact br_t (by decide +kernel) k
  | succ d ih =>
    intro m hm h1 H
    have h64 : ¬ (64 : Int32) ≤ nI m := nI_ge (b := 64) (by omega) (by decide)
    by_cases t : p.testBit m = true
    · refine br_f h64 (br_t (ms_lbT hp (by omega) t) (br_f (show ¬ (1 : Int32) = 0 by decide) ?_))
      have hl : m &&& s < 64 := Nat.and_lt_two_pow (n := 6) m hs
      refine pk_eq (m &&& s) 0 (fun z => ?_) (fun z => nm_r (nI_1 m) (ih (m + 1) (by omega) (by omega) (lt_s H (fun _ _ => z)))) (nx_and m s)
      rw [if_neg (fun y => (ms_koI p s).mp y m (by omega) h1 t z)] at k
      exact k
    · exact br_f h64 (br_f (ms_lbF hp (by omega) t) (br_t rfl (nm_r (nI_1 m) (ih (m + 1) (by omega) (by omega) (lt_s H (fun _ y => absurd y t))))))
theorem xs_ko {post : Int32 → Prop} {c : Int32} {a o : Nat → Int32} {p s : Nat} (hp : p < 2 ^ 64) (hs : s < 64) (k : post (if ms_ko p s = true then 1 else 0)) : wpX_keepsOut post (c, a, o) (nI s) (lN p) := by
  unfold wpX_keepsOut
  exact ⟨64, xs_koLoop hp hs k 63 1 rfl (by omega) (fun j h h1 => absurd h1 (by omega))⟩
theorem xs_ndLoop {post : Int32 → Prop} {c : Int32} {a o : Nat → Int32} {p : Nat} (hp : p < 2 ^ 64) (k : post (nI (ms_mn (ms_ko p) 64))) :
    ∀ d s, s + d = 64 → wX_needed_11 post (lN p) c a o (d + 1) (nI (ms_mn (ms_ko p) s)) (nI s) := by
  intro d
  induction d with
  | zero =>
    intro s hs
    obtain rfl : s = 64 := by omega
    exact br_t (by decide +kernel) k
  | succ d ih =>
    intro s hs
    have hn := ih (s + 1) (by omega)
    have h6 := ms_mn6 (ms_ko p) s
    have hpc := ms_pcLe s 6
    refine br_f (nI_ge (b := 64) (by omega) (by decide)) (xs_bit (by omega) ?_)
    rw [ms_pc67 s (by omega)]
    refine pk_le (ms_mn (ms_ko p) s) (ms_pc s 6) (fun h => ?_) (fun h => xs_ko hp (by omega) ?_)
    · rw [ms_mnF (fun z => absurd z.1 (by omega))] at hn
      exact nm_r (nI_1 s) hn
    · by_cases t : ms_ko p s = true
      · rw [ms_mnT h t] at hn
        rw [if_pos t]
        exact br_f (by decide) (nm_r (nI_1 s) hn)
      · rw [ms_mnF (fun z => t z.2)] at hn
        rw [if_neg t]
        exact br_t rfl (nm_r (nI_1 s) hn)
theorem xs_nd {post : Int32 → Prop} {a o : Nat → Int32} {c : Nat} (hc : c ≤ 6) (k : post (nI (ms_mn (ms_ko (ms_or (fun _ => true) (ms_bx a o c) 2401)) 64))) : wpX_needed post (nI c, a, o) := by
  unfold wpX_needed
  refine xs_pt hc ?_
  exact ⟨65, xs_ndLoop (ms_ptLt hc 2401) k 64 0 rfl⟩
