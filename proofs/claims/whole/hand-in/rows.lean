section
/-! rows of the kit to paste: stores, naturals in Int32 and Int64, masks, shifts -/
theorem pk_us {f : Nat → Int32} {k : Nat} {x : Int32} : upd f k x k = x := if_pos rfl
theorem pk_un {f : Nat → Int32} {k j : Nat} {x : Int32} (h : j ≠ k) : upd f k x j = f j := if_neg h
theorem pk_sub {a b : Nat} (h : b ≤ a) : nI a - nI b = nI (a - b) := by
  obtain ⟨c, rfl⟩ : ∃ c, a = c + b := ⟨a - b, by omega⟩
  rw [← nI_add, Int32.add_sub_cancel, Nat.add_sub_cancel]
theorem pk_m1 (n : Nat) : nI (n + 1) + (-1) = nI n := by
  rw [← nI_1, Int32.add_assoc, show (1 : Int32) + (-1) = 0 from rfl, Int32.add_zero]
theorem pk_mul (a b : Nat) : nI a * nI b = nI (a * b) := (Int32.ofNat_mul a b).symm
theorem pk_div {a d : Nat} (ha : a < 2 ^ 31) (h0 : 0 < d) (hd : d < 2 ^ 31) : nI a / nI d = nI (a / d) := by
  apply Int32.toInt_inj.mp
  rw [lg_idiv_nonneg (by rw [nI_toInt ha]; omega) (by rw [nI_toInt hd]; omega), nI_toInt ha, nI_toInt hd, nI_toInt (Nat.lt_of_le_of_lt (Nat.div_le_self a d) ha)]
  first | rfl | exact (Int.natCast_ediv _ _).symm
theorem pk_rem {a d : Nat} (ha : a < 2 ^ 31) (h0 : 0 < d) (hd : d < 2 ^ 31) : nI a - nI a / nI d * nI d = nI (a % d) := by
  rw [pk_div ha h0 hd, pk_mul, pk_sub (Nat.div_mul_le_self a d)]
  exact congrArg nI (by have := Nat.div_add_mod' a d; omega)
theorem pk_ix (x : Int32) {n : Nat} (hn : n < 2 ^ 31) : x < 0 ∨ nI n ≤ x ∨ ∃ j : Nat, j < n ∧ x = nI j := by
  by_cases h : x < 0
  · exact Or.inl h
  · obtain ⟨j, hj, rfl⟩ := nI_of h
    by_cases h2 : j < n
    · exact Or.inr (Or.inr ⟨j, h2, rfl⟩)
    · exact Or.inr (Or.inl (nI_le (by omega) hj))
theorem pk_le {x y : Int32} {A B : Prop} (a b : Nat) (f : a ≤ b → A) (g : b < a → B) (hx : x = nI a := by rfl) (hy : y = nI b := by rfl) (ha : a < 2 ^ 31 := by omega) (hb : b < 2 ^ 31 := by omega) : (x ≤ y → A) ∧ (¬ x ≤ y → B) := by
  subst hx hy
  rw [nI_leI ha hb]
  exact ⟨f, fun z => g (by omega)⟩
theorem pk_lt {x y : Int32} {A B : Prop} (a b : Nat) (f : a < b → A) (g : b ≤ a → B) (hx : x = nI a := by rfl) (hy : y = nI b := by rfl) (ha : a < 2 ^ 31 := by omega) (hb : b < 2 ^ 31 := by omega) : (x < y → A) ∧ (¬ x < y → B) := by
  subst hx hy
  rw [nI_ltI ha hb]
  exact ⟨f, fun z => g (by omega)⟩
theorem pk_eq {x y : Int32} {A B : Prop} (a b : Nat) (f : a = b → A) (g : a ≠ b → B) (hx : x = nI a := by rfl) (hy : y = nI b := by rfl) (ha : a < 2 ^ 31 := by omega) (hb : b < 2 ^ 31 := by omega) : (x = y → A) ∧ (¬ x = y → B) := by
  subst hx hy
  rw [nI_eq ha hb]
  exact ⟨f, g⟩
theorem pk_in {x : Int32} (n N : Nat) (h : n < N) (hx : x = nI n := by rfl) (hN : N < 2 ^ 31 := by omega) : vp_in x N := by
  subst hx
  exact vp_in_nI h hN
theorem pk_cl {x : Int32} (n : Nat) (hx : x = nI n := by rfl) (h : n < 2 ^ 31 := by omega) : x.toNatClampNeg = n := by
  subst hx
  exact nI_clamp h
theorem pk_tn {n : Nat} (h : n < 2 ^ 32) : (nI n).toBitVec.toNat = n := Nat.mod_eq_of_lt h
theorem pk_and (x : Int32) {m : Int32} (k : Nat) (hm : m.toBitVec.toNat = 2 ^ k - 1) : x &&& m = nI (x.toBitVec.toNat % 2 ^ k) := by
  apply Int32.toBitVec_inj.mp
  apply BitVec.eq_of_toNat_eq
  rw [Int32.toBitVec_and, BitVec.toNat_and, hm, Nat.and_two_pow_sub_one_eq_mod]
  show _ = (BitVec.ofNat 32 _).toNat
  rw [BitVec.toNat_ofNat]
  exact (Nat.mod_eq_of_lt (Nat.lt_of_le_of_lt (Nat.mod_le _ _) x.toBitVec.isLt)).symm
theorem pk_andN {n : Nat} (h : n < 2 ^ 32) {m : Int32} (k : Nat) (hm : m.toBitVec.toNat = 2 ^ k - 1) : nI n &&& m = nI (n % 2 ^ k) := by
  rw [pk_and _ k hm, pk_tn h]
theorem pk_andE (x : Int32) {m : Int32} (k : Nat) (hm : m.toBitVec.toNat = 2 ^ k - 1) : ∃ j : Nat, j < 2 ^ k ∧ x &&& m = nI j := ⟨_, Nat.mod_lt _ (Nat.two_pow_pos k), pk_and x k hm⟩
theorem pk_andIn (x : Int32) {m : Int32} (k : Nat) (hm : m.toBitVec.toNat = 2 ^ k - 1) (hk : k ≤ 30) : vp_in (x &&& m) (2 ^ k) := by
  obtain ⟨j, hj, e⟩ := pk_andE x k hm
  rw [e]
  exact vp_in_nI hj (Nat.lt_of_le_of_lt (Nat.pow_le_pow_right (by decide) hk) (by decide))
theorem pk_shl (a s : Int32) (k : Nat) (hs : (s.toBitVec.smod 32).toNat = k) : (a <<< s).toBitVec.toNat = a.toBitVec.toNat * 2 ^ k % 2 ^ 32 := by
  show (a.toBitVec <<< (s.toBitVec.smod 32).toNat).toNat = _
  rw [hs, BitVec.toNat_shiftLeft, Nat.shiftLeft_eq]
theorem pk_shlN {n : Nat} (s : Int32) (k : Nat) (hs : (s.toBitVec.smod 32).toNat = k) (h : n * 2 ^ k < 2 ^ 32) : nI n <<< s = nI (n * 2 ^ k) := by
  apply Int32.toBitVec_inj.mp
  apply BitVec.eq_of_toNat_eq
  have hn : n < 2 ^ 32 := Nat.lt_of_le_of_lt (Nat.le_mul_of_pos_right n (Nat.two_pow_pos k)) h
  rw [pk_shl _ _ k hs, pk_tn hn, pk_tn h, Nat.mod_eq_of_lt h]
theorem pk_shr (a s : Int32) (k : Nat) (hs : (s.toBitVec.smod 32).toNat = k) : (a >>> s).toInt = a.toInt >>> k := by
  show (a.toBitVec.sshiftRight (s.toBitVec.smod 32).toNat).toInt = _
  rw [hs, BitVec.toInt_sshiftRight]
  rfl
theorem pk_shrN {n : Nat} (h : n < 2 ^ 31) (s : Int32) (k : Nat) (hs : (s.toBitVec.smod 32).toNat = k) : nI n >>> s = nI (n / 2 ^ k) := by
  apply Int32.toInt_inj.mp
  have h2 : n / 2 ^ k ≤ n := Nat.div_le_self _ _
  rw [pk_shr _ _ k hs, nI_toInt h, nI_toInt (by omega), Int.shiftRight_eq_div_pow]
  rfl
theorem pk_ushr (x s : Int32) (k : Nat) (hs : ((s.toUInt32 &&& Int32.toUInt32 31).toBitVec % 32).toNat = k) : (x.toUInt32 >>> (s.toUInt32 &&& Int32.toUInt32 31)).toInt32.toBitVec.toNat = x.toBitVec.toNat / 2 ^ k := by
  have e : (x.toUInt32 >>> (s.toUInt32 &&& Int32.toUInt32 31)).toInt32.toBitVec = x.toBitVec >>> k := by
    rw [← hs]
    exact UInt32.toBitVec_shiftRight _ _
  rw [e, BitVec.toNat_ushiftRight, Nat.shiftRight_eq_div_pow]
theorem pk_ushrN {n : Nat} (hn : n < 2 ^ 32) (s : Int32) (k : Nat) (hs : ((s.toUInt32 &&& Int32.toUInt32 31).toBitVec % 32).toNat = k) : ((nI n).toUInt32 >>> (s.toUInt32 &&& Int32.toUInt32 31)).toInt32 = nI (n / 2 ^ k) := by
  apply Int32.toBitVec_inj.mp
  apply BitVec.eq_of_toNat_eq
  rw [pk_ushr _ s k hs, pk_tn hn, pk_tn (Nat.lt_of_le_of_lt (Nat.div_le_self _ _) hn)]
theorem pk_lT {n : Nat} (h : n < 2 ^ 63) : (lN n).toInt = (n : Int) := lg_ofNat_toInt h
theorem pk_lEQ {a b : Nat} (ha : a < 2 ^ 63) (hb : b < 2 ^ 63) : lN a = lN b ↔ a = b := by
  rw [← Int64.toInt_inj, pk_lT ha, pk_lT hb]; omega
theorem pk_loop {σ : Type} (W : Nat → Nat → σ → Prop) (I : Nat → σ → Prop) (e i0 : Nat) (s : σ) (hi : i0 ≤ e) (h0 : I i0 s) (hx : ∀ n s, I e s → W (n + 1) e s)
    (hs : ∀ n i s, i < e → I i s → (∀ s', I (i + 1) s' → W n (i + 1) s') → W (n + 1) i s) : ∃ n, W n i0 s :=
  ⟨e + 1, loop_i W I e hx hs (e + 1) i0 s hi (by omega) h0⟩
theorem pk_loopD {σ : Type} (W : Nat → Nat → σ → Prop) (I : Nat → σ → Prop) (hx : ∀ n s, I 0 s → W (n + 1) 0 s)
    (hs : ∀ n i s, I (i + 1) s → (∀ s', I i s' → W n i s') → W (n + 1) (i + 1) s) : ∀ (e : Nat) (s : σ), I e s → W (e + 1) e s := by
  intro e
  induction e with
  | zero => exact fun s h => hx 0 s h
  | succ e ih => exact fun s h => hs (e + 1) e s h (fun s' h' => ih s' h')
theorem s_l : ∀ n, n < 32 → ((nI n &&& 31).toBitVec.smod 32).toNat = n := by decide +kernel
theorem s_u : ∀ n, n < 32 → (((nI n).toUInt32 &&& Int32.toUInt32 31).toBitVec % 32).toNat = n := by decide +kernel
theorem nx_and (a b : Nat) : nI a &&& nI b = nI (a &&& b) := by
  apply Int32.toBitVec_inj.1
  show BitVec.ofNat 32 a &&& BitVec.ofNat 32 b = BitVec.ofNat 32 (a &&& b)
  apply BitVec.eq_of_getLsbD_eq
  intro i hi
  simp [hi]
theorem wb_tb (n : Nat) : (lN n).toBitVec = BitVec.ofNat 64 n := rfl
theorem wb_inj {a b : Int64} (h : a.toBitVec = b.toBitVec) : a = b := Int64.toBitVec_inj.mp h
theorem wb_tn {n : Nat} (h : n < 2 ^ 64) : (lN n).toBitVec.toNat = n := by rw [wb_tb, BitVec.toNat_ofNat, Nat.mod_eq_of_lt h]
theorem wb_c : ∀ k, k < 64 → ((nI k).toInt64 &&& 63) = lN k := by decide +kernel
theorem wb_cu : ∀ k, k < 64 → ((nI k).toInt64.toUInt64 &&& Int64.toUInt64 63) = UInt64.ofNat k := by decide +kernel
theorem wb_sm : ∀ k, k < 64 → (BitVec.ofNat 64 k).smod 64 = BitVec.ofNat 64 k := by decide +kernel
theorem wb_pw {a b : Nat} (h : a ≤ b) : 2 ^ b = 2 ^ a * 2 ^ (b - a) := by rw [← Nat.pow_add]; congr 1; omega
theorem wb_lt2 {a b : Nat} (h : a < b) : 2 ^ a < 2 ^ b := Nat.pow_lt_pow_right (by decide) h
theorem wb_shr {n k : Nat} (hn : n < 2 ^ 64) (hk : k < 64) : ((lN n).toUInt64 >>> ((nI k).toInt64.toUInt64 &&& Int64.toUInt64 63)).toInt64 = lN (n / 2 ^ k) := by
  rw [wb_cu k hk]
  apply wb_inj
  apply BitVec.eq_of_toNat_eq
  show ((lN n).toUInt64 >>> UInt64.ofNat k).toNat = (BitVec.ofNat 64 _).toNat
  have h1 : (UInt64.ofNat k).toNat = k := by
    show (BitVec.ofNat 64 k).toNat = k
    rw [BitVec.toNat_ofNat, Nat.mod_eq_of_lt (by omega)]
  have h2 : (lN n).toUInt64.toNat = n := wb_tn hn
  rw [UInt64.toNat_shiftRight, h1, h2, Nat.mod_eq_of_lt hk, Nat.shiftRight_eq_div_pow, BitVec.toNat_ofNat, Nat.mod_eq_of_lt (Nat.lt_of_le_of_lt (Nat.div_le_self _ _) hn)]
theorem wb_shl (n : Nat) {k : Nat} (hk : k < 64) : lN n <<< ((nI k).toInt64 &&& 63) = lN (n * 2 ^ k) := by
  rw [wb_c k hk]
  apply wb_inj
  rw [Int64.toBitVec_shiftLeft, wb_tb, wb_tb, wb_tb, wb_sm k hk]
  apply BitVec.eq_of_toNat_eq
  rw [BitVec.shiftLeft_eq', BitVec.toNat_shiftLeft, BitVec.toNat_ofNat, BitVec.toNat_ofNat, BitVec.toNat_ofNat, Nat.mod_eq_of_lt (show k < 2 ^ 64 by omega), Nat.shiftLeft_eq, Nat.mul_mod, Nat.mod_mod, ← Nat.mul_mod]
theorem wb_and {a b : Nat} (ha : a < 2 ^ 64) (hb : b < 2 ^ 64) : lN a &&& lN b = lN (a &&& b) := by
  apply wb_inj
  rw [Int64.toBitVec_and, wb_tb, wb_tb, wb_tb]
  apply BitVec.eq_of_toNat_eq
  rw [BitVec.toNat_and, BitVec.toNat_ofNat, BitVec.toNat_ofNat, BitVec.toNat_ofNat, Nat.mod_eq_of_lt ha, Nat.mod_eq_of_lt hb, Nat.mod_eq_of_lt (Nat.and_lt_two_pow _ hb)]
theorem wb_or {a b : Nat} (ha : a < 2 ^ 64) (hb : b < 2 ^ 64) : lN a ||| lN b = lN (a ||| b) := by
  apply wb_inj
  rw [Int64.toBitVec_or, wb_tb, wb_tb, wb_tb]
  apply BitVec.eq_of_toNat_eq
  rw [BitVec.toNat_or, BitVec.toNat_ofNat, BitVec.toNat_ofNat, BitVec.toNat_ofNat, Nat.mod_eq_of_lt ha, Nat.mod_eq_of_lt hb, Nat.mod_eq_of_lt (Nat.or_lt_two_pow ha hb)]
theorem wb_mask {n k : Nat} (hn : n < 2 ^ 64) (hk : k < 64) : lN n &&& lN (2 ^ k - 1) = lN (n % 2 ^ k) := by
  rw [wb_and hn (by have := wb_lt2 hk; omega), Nat.and_two_pow_sub_one_eq_mod]
theorem wb_a1 {n : Nat} (hn : n < 2 ^ 64) : lN n &&& 1 = lN (n % 2) := wb_mask (k := 1) hn (by decide)
theorem wb_bit {n k : Nat} (hn : n < 2 ^ 64) (hk : k < 64) : ((lN n).toUInt64 >>> ((nI k).toInt64.toUInt64 &&& Int64.toUInt64 63)).toInt64 &&& 1 = lN (n / 2 ^ k % 2) := by
  rw [wb_shr hn hk, wb_a1 (Nat.lt_of_le_of_lt (Nat.div_le_self _ _) hn)]
end
section
/-! pure pictures: masks of equations, counts of points, unions of bits, the least size -/
def ms_mk (P : Nat → Bool) : Nat → Nat
  | 0 => 0
  | n + 1 => if P n = true then ms_mk P n ||| 2 ^ n else ms_mk P n
theorem ms_mkT {P : Nat → Bool} {n : Nat} (h : P n = true) : ms_mk P (n + 1) = ms_mk P n ||| 2 ^ n := if_pos h
theorem ms_mkF {P : Nat → Bool} {n : Nat} (h : ¬ P n = true) : ms_mk P (n + 1) = ms_mk P n := if_neg h
theorem ms_tb (P : Nat → Bool) (n j : Nat) : (ms_mk P n).testBit j = (decide (j < n) && P j) := by
  induction n with
  | zero => simp [ms_mk]
  | succ n ih =>
    by_cases e : n = j
    · subst e
      by_cases h : P n = true
      · rw [ms_mkT h, Nat.testBit_or, ih, Nat.testBit_two_pow, h]; simp
      · rw [ms_mkF h, ih]; simp [h]
    · have hd : decide (j < n + 1) = decide (j < n) := decide_eq_decide.mpr (by omega)
      by_cases h : P n = true
      · rw [ms_mkT h, Nat.testBit_or, ih, Nat.testBit_two_pow, hd]; simp [e]
      · rw [ms_mkF h, ih, hd]
theorem ms_mkLt (P : Nat → Bool) (n : Nat) : ms_mk P n < 2 ^ n := by
  induction n with
  | zero => exact Nat.one_pos
  | succ n ih =>
    have h1 : 2 ^ n < 2 ^ (n + 1) := Nat.pow_lt_pow_right (by decide) (by omega)
    by_cases h : P n = true
    · rw [ms_mkT h]; exact Nat.or_lt_two_pow (Nat.lt_trans ih h1) h1
    · rw [ms_mkF h]; exact Nat.lt_trans ih h1
theorem ms_mk64 (P : Nat → Bool) {n : Nat} (h : n ≤ 6) : ms_mk P n < 64 :=
  Nat.lt_of_lt_of_le (ms_mkLt P n) (Nat.pow_le_pow_right (n := 2) (by decide) h)
theorem ms_mkAnd (P Q : Nat → Bool) (n : Nat) : ms_mk P n &&& ms_mk Q n = ms_mk (fun q => Q q && P q) n := by
  apply Nat.eq_of_testBit_eq
  intro j
  rw [Nat.testBit_and, ms_tb, ms_tb, ms_tb]
  generalize decide (j < n) = d
  cases d <;> cases P j <;> cases Q j <;> rfl
/-! counts -/
def ms_ct (p : Nat → Bool) : Nat → Nat
  | 0 => 0
  | n + 1 => ms_ct p n + (if p n = true then 1 else 0)
theorem ms_ctT {p : Nat → Bool} {n : Nat} (h : p n = true) : ms_ct p (n + 1) = ms_ct p n + 1 := by
  show ms_ct p n + (if p n = true then 1 else 0) = _
  rw [if_pos h]
theorem ms_ctF {p : Nat → Bool} {n : Nat} (h : ¬ p n = true) : ms_ct p (n + 1) = ms_ct p n := by
  show ms_ct p n + (if p n = true then 1 else 0) = _
  rw [if_neg h]; rfl
theorem ms_ctLe (p : Nat → Bool) (n : Nat) : ms_ct p n ≤ n := by
  induction n with
  | zero => exact Nat.le_refl 0
  | succ n ih =>
    by_cases h : p n = true
    · rw [ms_ctT h]; omega
    · rw [ms_ctF h]; omega
theorem ms_ctEq {p q : Nat → Bool} (hpq : ∀ i, p i = true → q i = true) (n : Nat) :
    ms_ct p n ≤ ms_ct q n ∧ (ms_ct q n = ms_ct p n ↔ ∀ i, i < n → q i = true → p i = true) := by
  induction n with
  | zero => exact ⟨Nat.le_refl 0, fun _ i hi => absurd hi (Nat.not_lt_zero i), fun _ => rfl⟩
  | succ n ih =>
    obtain ⟨h1, h2⟩ := ih
    by_cases hq : q n = true
    · by_cases hp : p n = true
      · rw [ms_ctT hq, ms_ctT hp]
        refine ⟨by omega, fun e i hi => ?_, fun e => ?_⟩
        · by_cases z : i = n
          · subst z; exact fun _ => hp
          · exact h2.mp (by omega) i (by omega)
        · have := h2.mpr (fun i hi => e i (by omega)); omega
      · rw [ms_ctT hq, ms_ctF hp]
        refine ⟨by omega, fun e => ?_, fun e => ?_⟩
        · exact absurd e (by omega)
        · exact absurd (e n (by omega) hq) hp
    · have hp : ¬ p n = true := fun z => hq (hpq n z)
      rw [ms_ctF hq, ms_ctF hp]
      refine ⟨h1, fun e i hi => ?_, fun e => ?_⟩
      · by_cases z : i = n
        · subst z; exact fun y => absurd y hq
        · exact h2.mp e i (by omega)
      · exact h2.mpr (fun i hi => e i (by omega))
/-! unions of bits -/
def ms_or (p : Nat → Bool) (f : Nat → Nat) : Nat → Nat
  | 0 => 0
  | n + 1 => if p n = true then ms_or p f n ||| 2 ^ (f n) else ms_or p f n
theorem ms_orT {p : Nat → Bool} {f : Nat → Nat} {n : Nat} (h : p n = true) : ms_or p f (n + 1) = ms_or p f n ||| 2 ^ (f n) := if_pos h
theorem ms_orF {p : Nat → Bool} {f : Nat → Nat} {n : Nat} (h : ¬ p n = true) : ms_or p f (n + 1) = ms_or p f n := if_neg h
theorem ms_orLt (p : Nat → Bool) (f : Nat → Nat) (b n : Nat) (hf : ∀ i, i < n → f i < b) : ms_or p f n < 2 ^ b := by
  induction n with
  | zero => exact Nat.two_pow_pos b
  | succ n ih =>
    have hi := ih (fun i hi => hf i (by omega))
    by_cases h : p n = true
    · rw [ms_orT h]; exact Nat.or_lt_two_pow hi (Nat.pow_lt_pow_right (by decide) (hf n (by omega)))
    · rw [ms_orF h]; exact hi
theorem ms_orTb (f : Nat → Nat) (n j : Nat) : (ms_or (fun _ => true) f n).testBit j = true ↔ ∃ i, i < n ∧ f i = j := by
  induction n with
  | zero =>
    constructor
    · intro h; rw [show ms_or (fun _ => true) f 0 = 0 from rfl, Nat.zero_testBit] at h; exact absurd h (by decide)
    · rintro ⟨i, hi, _⟩; exact absurd hi (Nat.not_lt_zero i)
  | succ n ih =>
    rw [ms_orT (p := fun _ => true) rfl, Nat.testBit_or, Bool.or_eq_true, ih, Nat.testBit_two_pow, decide_eq_true_eq]
    constructor
    · rintro (⟨i, hi, e⟩ | e)
      · exact ⟨i, by omega, e⟩
      · exact ⟨n, by omega, e⟩
    · rintro ⟨i, hi, e⟩
      by_cases z : i = n
      · subst z; exact Or.inr e
      · exact Or.inl ⟨i, by omega, e⟩
/-! sums over masks -/
def ms_sm (p : Nat → Bool) (f : Nat → Nat) : Nat → Nat
  | 0 => 0
  | n + 1 => if p n = true then ms_sm p f n + f n else ms_sm p f n
theorem ms_smT {p : Nat → Bool} {f : Nat → Nat} {n : Nat} (h : p n = true) : ms_sm p f (n + 1) = ms_sm p f n + f n := if_pos h
theorem ms_smF {p : Nat → Bool} {f : Nat → Nat} {n : Nat} (h : ¬ p n = true) : ms_sm p f (n + 1) = ms_sm p f n := if_neg h
theorem ms_smAdd (p : Nat → Bool) (f g : Nat → Nat) (b n : Nat) (hg : ∀ m, g m = f m + (if b = m then 1 else 0)) :
    ms_sm p g n = ms_sm p f n + (if b < n ∧ p b = true then 1 else 0) := by
  induction n with
  | zero => rw [if_neg (by omega)]; rfl
  | succ n ih =>
    by_cases h : p n = true
    · rw [ms_smT h, ms_smT h, ih, hg n]
      by_cases e : b = n
      · subst e
        rw [if_pos rfl, if_neg (by omega), if_pos ⟨by omega, h⟩]; omega
      · rw [if_neg e]
        by_cases z : b < n ∧ p b = true
        · rw [if_pos z, if_pos ⟨by omega, z.2⟩]; omega
        · rw [if_neg z, if_neg (fun y => z ⟨by omega, y.2⟩)]; omega
    · rw [ms_smF h, ms_smF h, ih]
      by_cases z : b < n ∧ p b = true
      · rw [if_pos z, if_pos ⟨by omega, z.2⟩]
      · rw [if_neg z, if_neg]
        rintro ⟨y1, y2⟩
        by_cases e : b = n
        · subst e; exact h y2
        · exact z ⟨by omega, y2⟩
theorem ms_sm0 (p : Nat → Bool) (n : Nat) : ms_sm p (fun _ => 0) n = 0 := by
  induction n with
  | zero => rfl
  | succ n ih =>
    by_cases h : p n = true
    · rw [ms_smT h, ih]
    · rw [ms_smF h, ih]
/-- how many of the first N points have the mask m -/
def ms_cn (B : Nat → Nat) (N m : Nat) : Nat := ms_ct (fun i => decide (B i = m)) N
theorem ms_cnS (B : Nat → Nat) (N m : Nat) : ms_cn B (N + 1) m = ms_cn B N m + (if B N = m then 1 else 0) := by
  show ms_ct _ N + (if decide (B N = m) = true then 1 else 0) = _
  by_cases h : B N = m
  · rw [if_pos (decide_eq_true h), if_pos h]; rfl
  · rw [if_neg (fun z => h (of_decide_eq_true z)), if_neg h]; rfl
theorem ms_cnLe (B : Nat → Nat) (N m : Nat) : ms_cn B N m ≤ N := ms_ctLe _ N
theorem ms_smCn (p : Nat → Bool) (B : Nat → Nat) (M N : Nat) (hB : ∀ i, i < N → B i < M) :
    ms_sm p (ms_cn B N) M = ms_ct (fun i => p (B i)) N := by
  induction N with
  | zero => exact ms_sm0 p M
  | succ N ih =>
    rw [ms_smAdd p (ms_cn B N) (ms_cn B (N + 1)) (B N) M (fun m => ms_cnS B N m), ih (fun i hi => hB i (by omega))]
    show _ = ms_ct (fun i => p (B i)) N + (if p (B N) = true then 1 else 0)
    by_cases h : p (B N) = true
    · rw [if_pos ⟨hB N (by omega), h⟩, if_pos h]
    · rw [if_neg (fun z => h z.2), if_neg h]
theorem ms_smLe (p : Nat → Bool) (B : Nat → Nat) (M N : Nat) (hB : ∀ i, i < N → B i < M) : ms_sm p (ms_cn B N) M ≤ N := by
  rw [ms_smCn p B M N hB]; exact ms_ctLe _ N
/-! the number of bits; the least -/
def ms_pc (m : Nat) : Nat → Nat
  | 0 => 0
  | b + 1 => ms_pc m b + m / 2 ^ b % 2
theorem ms_pcLe (m b : Nat) : ms_pc m b ≤ b := by
  induction b with
  | zero => exact Nat.le_refl 0
  | succ b ih =>
    show ms_pc m b + m / 2 ^ b % 2 ≤ b + 1
    have := Nat.mod_lt (m / 2 ^ b) (show 0 < 2 by decide)
    omega
theorem ms_pc67 : ∀ m, m < 64 → ms_pc m 7 = ms_pc m 6 := by decide +kernel
theorem ms_pcAnd : ∀ A, A < 64 → ∀ m, m < 64 → ms_pc (m &&& A) 6 ≤ ms_pc m 6 := by decide +kernel
theorem ms_pc1 : ∀ v, v < 7 → ms_pc (2 ^ v) 7 = 1 := by decide +kernel
theorem ms_pcN : ∀ m, m < 128 → (∀ v, v < 7 → ¬ m = 2 ^ v) → ¬ ms_pc m 7 = 1 := by decide +kernel
def ms_mn (f : Nat → Bool) : Nat → Nat
  | 0 => 6
  | n + 1 => if ms_pc n 6 < ms_mn f n ∧ f n = true then ms_pc n 6 else ms_mn f n
theorem ms_mnT {f : Nat → Bool} {n : Nat} (h : ms_pc n 6 < ms_mn f n) (h2 : f n = true) : ms_mn f (n + 1) = ms_pc n 6 := if_pos ⟨h, h2⟩
theorem ms_mnF {f : Nat → Bool} {n : Nat} (h : ¬ (ms_pc n 6 < ms_mn f n ∧ f n = true)) : ms_mn f (n + 1) = ms_mn f n := if_neg h
theorem ms_mn6 (f : Nat → Bool) (n : Nat) : ms_mn f n ≤ 6 := by
  induction n with
  | zero => exact Nat.le_refl 6
  | succ n ih =>
    by_cases h : ms_pc n 6 < ms_mn f n ∧ f n = true
    · rw [ms_mnT h.1 h.2]; exact ms_pcLe n 6
    · rw [ms_mnF h]; exact ih
theorem ms_mnLb (f : Nat → Bool) (n k : Nat) (hk : k < n) (hf : f k = true) : ms_mn f n ≤ ms_pc k 6 := by
  induction n with
  | zero => exact absurd hk (Nat.not_lt_zero k)
  | succ n ih =>
    by_cases h : ms_pc n 6 < ms_mn f n ∧ f n = true
    · rw [ms_mnT h.1 h.2]
      by_cases e : k = n
      · subst e; exact Nat.le_refl _
      · have := ih (by omega); omega
    · rw [ms_mnF h]
      by_cases e : k = n
      · subst e
        by_cases z : ms_pc k 6 < ms_mn f k
        · exact absurd ⟨z, hf⟩ h
        · omega
      · exact ih (by omega)
theorem ms_mnAt (f : Nat → Bool) (n : Nat) : ms_mn f n = 6 ∨ ∃ k, k < n ∧ f k = true ∧ ms_mn f n = ms_pc k 6 := by
  induction n with
  | zero => exact Or.inl rfl
  | succ n ih =>
    by_cases h : ms_pc n 6 < ms_mn f n ∧ f n = true
    · exact Or.inr ⟨n, by omega, h.2, ms_mnT h.1 h.2⟩
    · rw [ms_mnF h]
      rcases ih with e | ⟨k, hk, h1, h2⟩
      · exact Or.inl e
      · exact Or.inr ⟨k, by omega, h1, h2⟩
theorem ms_mnLe (f g : Nat → Bool) (n : Nat) (h : ∀ k, k < n → f k = true → ∃ j, j < n ∧ g j = true ∧ ms_pc j 6 ≤ ms_pc k 6) : ms_mn g n ≤ ms_mn f n := by
  rcases ms_mnAt f n with e | ⟨k, hk, h1, h2⟩
  · rw [e]; exact ms_mn6 g n
  · obtain ⟨j, hj, g1, g2⟩ := h k hk h1
    have := ms_mnLb g n j hj g1
    omega
/-! X's test of a choice against Y's -/
/-- X: each mask that was seen and isn't empty meets s -/
def ms_kr (pat s : Nat) : Nat → Bool
  | 0 => true
  | m + 1 => ms_kr pat s m && !(decide (1 ≤ m) && pat.testBit m && decide (m &&& s = 0))
def ms_ko (pat s : Nat) : Bool := ms_kr pat s 64
theorem ms_krI (pat s n : Nat) : ms_kr pat s n = true ↔ ∀ m, m < n → 1 ≤ m → pat.testBit m = true → ¬ m &&& s = 0 := by
  induction n with
  | zero => exact ⟨fun _ m hm => absurd hm (Nat.not_lt_zero m), fun _ => rfl⟩
  | succ n ih =>
    rw [show ms_kr pat s (n + 1) = (ms_kr pat s n && !(decide (1 ≤ n) && pat.testBit n && decide (n &&& s = 0))) from rfl, Bool.and_eq_true, ih]
    constructor
    · rintro ⟨h, h2⟩ m hm h1 ht hz
      by_cases e : m = n
      · subst e
        rw [decide_eq_true h1, ht, decide_eq_true hz] at h2
        exact absurd h2 (by decide)
      · exact h m (by omega) h1 ht hz
    · intro h
      refine ⟨fun m hm => h m (by omega), ?_⟩
      by_cases h1 : 1 ≤ n
      · by_cases ht : pat.testBit n = true
        · rw [decide_eq_false (h n (by omega) h1 ht), Bool.and_false]; rfl
        · simp [ht]
      · rw [decide_eq_false h1, Bool.false_and, Bool.false_and]; rfl
theorem ms_koI (pat s : Nat) : ms_ko pat s = true ↔ ∀ m, m < 64 → 1 ≤ m → pat.testBit m = true → ¬ m &&& s = 0 := ms_krI pat s 64
/-- Y: s lies within A, and as many points meet nothing of s as nothing of A -/
def ms_yo (B : Nat → Nat) (A s : Nat) : Bool := decide (s &&& A = s) && decide (ms_ct (fun i => decide (B i &&& s = 0)) 2401 = ms_ct (fun i => decide (B i &&& A = 0)) 2401)
def ms_pt (B : Nat → Nat) (A : Nat) : Nat := ms_or (fun _ => true) (fun i => B i &&& A) 2401
theorem ms_koIff (B : Nat → Nat) (A s : Nat) (hA : A < 64) : ms_ko (ms_pt B A) s = true ↔ ∀ i, i < 2401 → ¬ B i &&& A = 0 → ¬ (B i &&& A) &&& s = 0 := by
  rw [ms_koI]
  constructor
  · intro h i hi hn
    have hl : B i &&& A < 64 := Nat.and_lt_two_pow (n := 6) (B i) hA
    exact h (B i &&& A) hl (by omega) ((ms_orTb (fun i => B i &&& A) 2401 (B i &&& A)).mpr ⟨i, hi, rfl⟩)
  · intro h m hm h1 ht
    obtain ⟨i, hi, e⟩ := (ms_orTb (fun i => B i &&& A) 2401 m).mp ht
    have e2 : B i &&& A = m := e
    have := h i hi (by omega)
    rw [e2] at this
    exact this
theorem ms_andSub {b A s : Nat} (h : s &&& A = s) : (b &&& A) &&& s = b &&& s := by
  rw [Nat.and_assoc, Nat.and_comm A s, h]
theorem ms_koAnd (B : Nat → Nat) (A s : Nat) (hA : A < 64) : ms_ko (ms_pt B A) (s &&& A) = true ↔ ms_ko (ms_pt B A) s = true := by
  rw [ms_koIff B A _ hA, ms_koIff B A _ hA]
  have e : ∀ b : Nat, (b &&& A) &&& (s &&& A) = (b &&& A) &&& s := by
    intro b
    rw [Nat.and_comm s A, ← Nat.and_assoc, Nat.and_assoc b A A, Nat.and_self]
  constructor
  · intro h i hi hn; have := h i hi hn; rw [e] at this; exact this
  · intro h i hi hn; rw [e]; exact h i hi hn
theorem ms_yoIff (B : Nat → Nat) (A s : Nat) (hA : A < 64) (hs : s &&& A = s) : ms_yo B A s = true ↔ ms_ko (ms_pt B A) s = true := by
  rw [ms_koIff B A s hA]
  unfold ms_yo
  rw [Bool.and_eq_true, decide_eq_true_eq, decide_eq_true_eq]
  have hpq : ∀ i, (fun i => decide (B i &&& A = 0)) i = true → (fun i => decide (B i &&& s = 0)) i = true := by
    intro i h
    have h0 : B i &&& A = 0 := of_decide_eq_true h
    apply decide_eq_true
    rw [← ms_andSub (b := B i) hs, h0, Nat.zero_and]
  have key := (ms_ctEq hpq 2401).2
  constructor
  · rintro ⟨_, h⟩ i hi hn hz
    rw [ms_andSub hs] at hz
    exact hn (of_decide_eq_true (key.mp h i hi (decide_eq_true hz)))
  · intro h
    refine ⟨hs, key.mpr (fun i hi hq => ?_)⟩
    have hz : B i &&& s = 0 := of_decide_eq_true hq
    apply decide_eq_true
    by_cases hn : B i &&& A = 0
    · exact hn
    · exact absurd ((ms_andSub hs).trans hz) (h i hi hn)
theorem ms_least (B : Nat → Nat) (A : Nat) (hA : A < 64) : ms_mn (ms_yo B A) 64 = ms_mn (ms_ko (ms_pt B A)) 64 := by
  apply Nat.le_antisymm
  · apply ms_mnLe
    intro k hk h
    have hl : k &&& A < 64 := Nat.and_lt_two_pow (n := 6) k hA
    have hs : (k &&& A) &&& A = k &&& A := by rw [Nat.and_assoc, Nat.and_self]
    exact ⟨k &&& A, hl, (ms_yoIff B A (k &&& A) hA hs).mpr ((ms_koAnd B A k hA).mpr h), ms_pcAnd A hA k hk⟩
  · apply ms_mnLe
    intro k hk h
    have hs : k &&& A = k := by
      unfold ms_yo at h
      rw [Bool.and_eq_true, decide_eq_true_eq] at h
      exact h.1
    exact ⟨k, hk, (ms_yoIff B A k hA hs).mp h, Nat.le_refl _⟩
/-! digits -/
def ms_to (R : Nat) : Nat → Nat
  | 0 => 0
  | j + 1 => ms_to R j * 7 + R / 7 ^ j % 7
theorem ms_toLt (R j : Nat) : ms_to R j < 7 ^ j := by
  induction j with
  | zero => exact Nat.one_pos
  | succ j ih =>
    show ms_to R j * 7 + R / 7 ^ j % 7 < 7 ^ (j + 1)
    have := Nat.mod_lt (R / 7 ^ j) (show 0 < 7 by decide)
    rw [Nat.pow_succ]
    omega
theorem ms_dv (R j : Nat) : R / 7 ^ j / 7 = R / 7 ^ (j + 1) := by rw [Nat.div_div_eq_div_mul, Nat.pow_succ]
theorem ms_dvLt {R : Nat} (h : R < 2 ^ 31) (j : Nat) : R / 7 ^ j < 2 ^ 31 := Nat.lt_of_le_of_lt (Nat.div_le_self _ _) h
/-- the numbers with the first j digits of R at equation c -/
def ms_put (a : Nat → Int32) (c R : Nat) : Nat → (Nat → Int32)
  | 0 => a
  | j + 1 => upd (ms_put a c R j) (c * 5 + j) (nI (R / 7 ^ j % 7))
/-! equations at points -/
def ms_sum (a : Nat → Int32) (e i : Nat) : Int32 :=
  a (e * 5) * nI (i / 343) + a (e * 5 + 1) * nI (i / 49 % 7) + a (e * 5 + 2) * nI (i / 7 % 7) + a (e * 5 + 3) * nI (i % 7)
def ms_bad (a : Nat → Int32) (e i : Nat) : Bool := decide (¬ ms_sum a e i - ms_sum a e i / 7 * 7 = a (e * 5 + 4))
def ms_on (o : Nat → Int32) (q : Nat) : Bool := decide (¬ o q = 0)
def ms_by (a : Nat → Int32) (c i : Nat) : Nat := ms_mk (fun q => ms_bad a q i) c
def ms_al (o : Nat → Int32) (c : Nat) : Nat := ms_mk (ms_on o) c
def ms_bx (a o : Nat → Int32) (c i : Nat) : Nat := ms_mk (fun q => ms_on o q && ms_bad a q i) c
theorem ms_bxE (a o : Nat → Int32) (c i : Nat) : ms_by a c i &&& ms_al o c = ms_bx a o c i := ms_mkAnd (fun q => ms_bad a q i) (ms_on o) c
def ms_sol (a o : Nat → Int32) (c i : Nat) : Bool := decide (ms_bx a o c i = 0)
/-- the digit of unknown x in point i -/
def ms_dg (i x : Nat) : Nat := if x = 0 then i / 343 else if x = 1 then i / 49 % 7 else if x = 2 then i / 7 % 7 else i % 7
theorem ms_dgLt {i : Nat} (h : i < 2401) (x : Nat) : ms_dg i x < 7 := by
  unfold ms_dg
  split
  · omega
  · split
    · omega
    · split <;> omega
/-! numbers -/
theorem ms_or32 (a b : Nat) : nI a ||| nI b = nI (a ||| b) := by
  apply Int32.toBitVec_inj.1
  show BitVec.ofNat 32 a ||| BitVec.ofNat 32 b = BitVec.ofNat 32 (a ||| b)
  apply BitVec.eq_of_getLsbD_eq
  intro i hi
  simp [hi]
theorem ms_one : ∀ q, q < 31 → (1 : Int32) <<< (nI q &&& 31) = nI (2 ^ q) := by decide +kernel
theorem ms_put1 (m : Nat) {q : Nat} (h : q < 31) : nI m ||| ((1 : Int32) <<< (nI q &&& 31)) = nI (m ||| 2 ^ q) := by rw [ms_one q h, ms_or32]
theorem ms_a1 {m : Nat} (h : m < 2 ^ 32) : nI m &&& 1 = nI (m % 2) := pk_andN (m := 1) h 1 (by decide)
theorem ms_sbit {m q : Nat} (hm : m < 2 ^ 31) (hq : q < 32) : (nI m >>> (nI q &&& 31)) &&& 1 = nI (m / 2 ^ q % 2) := by
  have := Nat.div_le_self m (2 ^ q)
  rw [pk_shrN hm _ q (s_l q hq), ms_a1 (by omega)]
theorem ms_ubit {m q : Nat} (hm : m < 2 ^ 31) (hq : q < 32) : ((nI m).toUInt32 >>> ((nI q).toUInt32 &&& Int32.toUInt32 31)).toInt32 &&& 1 = nI (m / 2 ^ q % 2) := by
  have := Nat.div_le_self m (2 ^ q)
  rw [pk_ushrN (by omega) _ q (s_u q hq), ms_a1 (by omega)]
theorem ms_d7 {n : Nat} (h : n < 2 ^ 31) : nI n / 7 = nI (n / 7) := pk_div (d := 7) h (by decide) (by decide)
theorem ms_r7 {n : Nat} (h : n < 2 ^ 31) : nI n - nI n / 7 * 7 = nI (n % 7) := pk_rem (d := 7) h (by decide) (by decide)
theorem ms_d49 {n : Nat} (h : n < 2 ^ 31) : nI n / 49 = nI (n / 49) := pk_div (d := 49) h (by decide) (by decide)
theorem ms_d343 {n : Nat} (h : n < 2 ^ 31) : nI n / 343 = nI (n / 343) := pk_div (d := 343) h (by decide) (by decide)
theorem ms_sub64 : ∀ A, A < 64 → ∀ s, s < 64 → ((nI s &&& (nI A ^^^ (-1)) = 0) ↔ s &&& A = s) := by decide +kernel
/-! what value and follows answer, from point i on with d points left -/
def ms_vl (p : Nat → Bool) (n : Int32) (x : Nat) : Nat → Nat → Int32
  | 0, _ => -4
  | d + 1, i => if p i = true then (if nI (ms_ct p i) = n then nI (ms_dg i x) else ms_vl p n x d (i + 1)) else ms_vl p n x d (i + 1)
theorem ms_vlHit {p : Nat → Bool} {n : Int32} {x d i : Nat} (h : p i = true) (e : nI (ms_ct p i) = n) : ms_vl p n x (d + 1) i = nI (ms_dg i x) := by
  rw [ms_vl, if_pos h, if_pos e]
theorem ms_vlMiss {p : Nat → Bool} {n : Int32} {x d i : Nat} (h : p i = true) (e : ¬ nI (ms_ct p i) = n) : ms_vl p n x (d + 1) i = ms_vl p n x d (i + 1) := by
  rw [ms_vl, if_pos h, if_neg e]
theorem ms_vlNo {p : Nat → Bool} {n : Int32} {x d i : Nat} (h : ¬ p i = true) : ms_vl p n x (d + 1) i = ms_vl p n x d (i + 1) := by
  rw [ms_vl, if_neg h]
theorem ms_vlNeg {p : Nat → Bool} {n : Int32} {x : Nat} (hn : n < 0) : ∀ d i, i + d = 2401 → ms_vl p n x d i = -4 := by
  intro d
  induction d with
  | zero => exact fun _ _ => rfl
  | succ d ih =>
    intro i hi
    by_cases h : p i = true
    · rw [ms_vlMiss h]
      · exact ih (i + 1) (by omega)
      · intro e
        have hl := ms_ctLe p i
        rw [← e] at hn
        exact nI_pos (by omega) hn
    · rw [ms_vlNo h]; exact ih (i + 1) (by omega)
def ms_fo (p q : Nat → Bool) : Nat → Nat → Int32
  | 0, _ => 1
  | d + 1, i => if p i = true ∧ q i = true then 0 else ms_fo p q d (i + 1)
theorem ms_foHit {p q : Nat → Bool} {d i : Nat} (h : p i = true) (e : q i = true) : ms_fo p q (d + 1) i = 0 := by
  rw [ms_fo, if_pos ⟨h, e⟩]
theorem ms_foNo {p q : Nat → Bool} {d i : Nat} (h : ¬ (p i = true ∧ q i = true)) : ms_fo p q (d + 1) i = ms_fo p q d (i + 1) := by
  rw [ms_fo, if_neg h]
end
section
/-! X's own methods, each with a general post -/
theorem ms_n7 : ¬ (7 : Int32) = 0 := by decide
theorem ms_n49 : ¬ (49 : Int32) = 0 := by decide
theorem ms_n343 : ¬ (343 : Int32) = 0 := by decide
theorem ms_end : (2401 : Int32) ≤ nI 2401 := by decide +kernel
theorem ms_not {i : Nat} (h : i < 2401) : ¬ (2401 : Int32) ≤ nI i := nI_ge (b := 2401) h (by decide)
theorem ms_cl {i : Nat} (h : i < 2401) : (nI i).toNatClampNeg = i := nI_clamp (by omega)
theorem ms_m5 (e : Nat) : nI e * 5 = nI (e * 5) := pk_mul e 5
theorem ms_bx64 {c : Nat} (hc : c ≤ 6) (a o : Nat → Int32) (i : Nat) : ms_bx a o c i < 64 := ms_mk64 _ hc
theorem ms_by64 {c : Nat} (hc : c ≤ 6) (a : Nat → Int32) (i : Nat) : ms_by a c i < 64 := ms_mk64 _ hc
theorem ms_al64 {c : Nat} (hc : c ≤ 6) (o : Nat → Int32) : ms_al o c < 64 := ms_mk64 _ hc
theorem ms_sT {a o : Nat → Int32} {c i : Nat} (h : ms_sol a o c i = true) : nI (ms_bx a o c i) = 0 := by
  have h0 : ms_bx a o c i = 0 := of_decide_eq_true h
  rw [h0, nI_0]
theorem ms_sF {a o : Nat → Int32} {c i : Nat} (hc : c ≤ 6) (h : ¬ ms_sol a o c i = true) : ¬ nI (ms_bx a o c i) = 0 := by
  have h0 : ¬ ms_bx a o c i = 0 := fun z => h (decide_eq_true z)
  have hb := ms_bx64 hc a o i
  exact nI_ne0 (by omega) (by omega)
theorem xs_hStep {post : Int32 → Prop} {c y s : Int32} {a o : Nat → Int32} {n e j r : Nat} (he : e < 6) (hj : j < 4) (hr : r < 2 ^ 31) (hy : nI j + (-1) = y)
    (k : wX_holds_13 post (nI (e * 5)) c a o n (s + a (e * 5 + j) * nI (r % 7)) (nI (r / 7)) y) : wX_holds_13 post (nI (e * 5)) c a o (n + 1) s (nI r) (nI j) := by
  have hx : nI (e * 5) + nI j = nI (e * 5 + j) := nI_add _ _
  have hin : vp_in (nI (e * 5) + nI j) 30 := by rw [hx]; exact vp_in_nI (by omega) (by decide)
  have hc : (nI (e * 5) + nI j).toNatClampNeg = e * 5 + j := by rw [hx]; exact nI_clamp (by omega)
  refine br_f (nI_pos (by omega)) ⟨hin, ms_n7, nm_r (e' := s + a (e * 5 + j) * nI (r % 7)) ?_ ⟨ms_n7, nm_r (ms_d7 hr) (nm_r hy k)⟩⟩
  rw [hc, ms_r7 hr]
theorem xs_hSum (a : Nat → Int32) (e : Nat) {i : Nat} (hi : i < 2401) : 0 + a (e * 5 + 3) * nI (i % 7) + a (e * 5 + 2) * nI (i / 7 % 7) + a (e * 5 + 1) * nI (i / 7 / 7 % 7) + a (e * 5 + 0) * nI (i / 7 / 7 / 7 % 7) = ms_sum a e i := by
  have h1 : i / 7 / 7 % 7 = i / 49 % 7 := by omega
  have h2 : i / 7 / 7 / 7 % 7 = i / 343 := by omega
  unfold ms_sum
  rw [h1, h2, Nat.add_zero, Int32.zero_add]
  ac_rfl
theorem xs_holds {post : Int32 → Prop} {c : Int32} {a o : Nat → Int32} {e i : Nat} (he : e < 6) (hi : i < 2401) (k : post (if ms_bad a e i = true then 0 else 1)) : wpX_holds post (c, a, o) (nI e) (nI i) := by
  unfold wpX_holds
  refine nm_r (ms_m5 e) ⟨5, ?_⟩
  refine xs_hStep (j := 3) he (by decide) (by omega) (pk_m1 2) ?_
  refine xs_hStep (j := 2) he (by decide) (by omega) (pk_m1 1) ?_
  refine xs_hStep (j := 1) he (by decide) (by omega) (pk_m1 0) ?_
  refine xs_hStep (j := 0) (y := -1) he (by decide) (by omega) (by decide +kernel) ?_
  rw [xs_hSum a e hi]
  have hx : nI (e * 5) + 4 = nI (e * 5 + 4) := nI_add (e * 5) 4
  have hin : vp_in (nI (e * 5) + 4) 30 := by rw [hx]; exact vp_in_nI (by omega) (by decide)
  have hc : (nI (e * 5) + 4).toNatClampNeg = e * 5 + 4 := by rw [hx]; exact nI_clamp (by omega)
  refine br_t (by decide) ⟨ms_n7, hin, ?_⟩
  rw [hc]
  by_cases h : ms_sum a e i - ms_sum a e i / 7 * 7 = a (e * 5 + 4)
  · have hb : ¬ ms_bad a e i = true := fun z => (of_decide_eq_true z) h
    rw [if_neg hb] at k
    exact br_t h k
  · have hb : ms_bad a e i = true := decide_eq_true h
    rw [if_pos hb] at k
    exact br_f h k
theorem xs_brLoop {post : Int32 → Prop} {a o : Nat → Int32} {c i : Nat} (hc : c ≤ 6) (hi : i < 2401) (k : post (nI (ms_bx a o c i))) :
    ∀ d q, q + d = c → wX_brokenAt_4 post (nI i) (nI c) a o (d + 1) (nI (ms_bx a o q i)) (nI q) := by
  intro d
  induction d with
  | zero =>
    intro q hq
    obtain rfl : q = c := by omega
    exact br_t (nI_le (Nat.le_refl _) (by omega)) k
  | succ d ih =>
    intro q hq
    have h : ¬ nI c ≤ nI q := nI_ge (by omega) (by omega)
    have hin : vp_in (nI q) 6 := vp_in_nI (by omega) (by decide)
    have hcl : (nI q).toNatClampNeg = q := nI_clamp (by omega)
    have hn := ih (q + 1) (by omega)
    by_cases z : o q = 0
    · have hp : ¬ (fun q => ms_on o q && ms_bad a q i) q = true := by simp [ms_on, z]
      have e : ms_bx a o (q + 1) i = ms_bx a o q i := ms_mkF hp
      rw [e] at hn
      exact br_f h ⟨hin, br_t (by rw [hcl]; exact z) (nm_r (nI_1 q) hn)⟩
    · have hz : ¬ o (nI q).toNatClampNeg = 0 := by rw [hcl]; exact z
      refine br_f h ⟨hin, br_f hz (xs_holds (by omega) hi ?_)⟩
      by_cases b : ms_bad a q i = true
      · have hp : (fun q => ms_on o q && ms_bad a q i) q = true := by simp [ms_on, z, b]
        have e : ms_bx a o (q + 1) i = ms_bx a o q i ||| 2 ^ q := ms_mkT hp
        rw [e] at hn
        rw [if_pos b]
        exact br_t rfl (nm_r (ms_put1 _ (by omega)) (nm_r (nI_1 q) hn))
      · have hp : ¬ (fun q => ms_on o q && ms_bad a q i) q = true := by simp [b]
        have e : ms_bx a o (q + 1) i = ms_bx a o q i := ms_mkF hp
        rw [e] at hn
        rw [if_neg b]
        exact br_f (by decide) (nm_r (nI_1 q) hn)
theorem xs_broken {post : Int32 → Prop} {a o : Nat → Int32} {c i : Nat} (hc : c ≤ 6) (hi : i < 2401) (k : post (nI (ms_bx a o c i))) : wpX_brokenAt post (nI c, a, o) (nI i) := by
  unfold wpX_brokenAt
  exact ⟨c + 1, xs_brLoop hc hi k c 0 (by omega)⟩
theorem xs_sol {post : Int32 → Prop} {a o : Nat → Int32} {c i : Nat} (hc : c ≤ 6) (hi : i < 2401) (k : post (if ms_sol a o c i = true then 1 else 0)) : wpX_isSolution post (nI c, a, o) (nI i) := by
  unfold wpX_isSolution
  refine xs_broken hc hi ?_
  by_cases h : ms_sol a o c i = true
  · rw [if_pos h] at k
    exact br_t (ms_sT h) k
  · rw [if_neg h] at k
    exact br_f (ms_sF hc h) k
theorem xs_sbLoop {post : Int32 → Prop} {a o : Nat → Int32} {c t : Nat} (hc : c ≤ 6) (ht : t ≤ 2401) (k : post (nI (ms_ct (ms_sol a o c) t))) :
    ∀ d i, i + d = t → wX_solutionsBefore_4 post (nI t) (nI c) a o (d + 1) (nI (ms_ct (ms_sol a o c) i)) (nI i) := by
  intro d
  induction d with
  | zero =>
    intro i hi
    obtain rfl : i = t := by omega
    exact pk_le 2401 i (fun _ => k) (fun _ => br_t (nI_le (Nat.le_refl _) (by omega)) k)
  | succ d ih =>
    intro i hi
    have hn := ih (i + 1) (by omega)
    refine br_f (ms_not (by omega)) (br_f (nI_ge (by omega) (by omega)) (xs_sol hc (by omega) ?_))
    by_cases h : ms_sol a o c i = true
    · rw [ms_ctT h] at hn
      rw [if_pos h]
      exact br_f (by decide) (nm_r (nI_1 _) (nm_r (nI_1 i) hn))
    · rw [ms_ctF h] at hn
      rw [if_neg h]
      exact br_t rfl (nm_r (nI_1 i) hn)
theorem xs_sb {post : Int32 → Prop} {a o : Nat → Int32} {c t : Nat} (hc : c ≤ 6) (ht : t ≤ 2401) (k : post (nI (ms_ct (ms_sol a o c) t))) : wpX_solutionsBefore post (nI c, a, o) (nI t) := by
  unfold wpX_solutionsBefore
  exact ⟨t + 1, xs_sbLoop hc ht k t 0 (by omega)⟩
theorem xs_unkT {post : Int32 → Prop} {c : Int32} {a o : Nat → Int32} {x : Nat} (hx : x < 4) (k : post 1) : wpX_isUnknown post (c, a, o) (nI x) := by
  unfold wpX_isUnknown
  exact br_f (nI_pos (by omega)) (br_f (nI_ge (b := 4) hx (by decide)) k)
theorem xs_unkF {post : Int32 → Prop} {c : Int32} {a o : Nat → Int32} {x : Int32} (hx : x < 0 ∨ 4 ≤ x) (k : post 0) : wpX_isUnknown post (c, a, o) x := by
  unfold wpX_isUnknown
  exact br_c (fun _ => k) (fun h => br_t (hx.resolve_left h) k)
theorem xs_cLoop {post : Int32 → Prop} {c : Int32} {a o : Nat → Int32} (x : Nat) (hx : x < 4) :
    ∀ d r, d < 4 → r < 2 ^ 31 → post (nI (r / 7 ^ d % 7)) → wX_coordinate_5 post (nI x) c a o (d + 1) (nI r) (nI (x + d)) := by
  intro d
  induction d with
  | zero =>
    intro r _ hr k
    rw [Nat.pow_zero, Nat.div_one] at k
    refine br_t (nI_le (by omega) (by omega)) ⟨ms_n7, ?_⟩
    rw [ms_r7 hr]
    exact k
  | succ d ih =>
    intro r hd hr k
    have h7 : r / 7 < 2 ^ 31 := by omega
    have e : r / 7 / 7 ^ d = r / 7 ^ (d + 1) := by rw [Nat.div_div_eq_div_mul, Nat.pow_succ, Nat.mul_comm]
    refine br_f (nI_ge (by omega) (by omega)) ⟨ms_n7, nm_r (ms_d7 hr) (nm_r (pk_m1 (x + d)) (ih (r / 7) (by omega) h7 ?_))⟩
    rw [e]
    exact k
theorem xs_coord {post : Int32 → Prop} {c : Int32} {a o : Nat → Int32} {i x : Nat} (hi : i < 2401) (hx : x < 4) (k : post (nI (ms_dg i x))) : wpX_coordinate post (c, a, o) (nI i) (nI x) := by
  unfold wpX_coordinate
  have h4 : x = 0 ∨ x = 1 ∨ x = 2 ∨ x = 3 := by omega
  rcases h4 with rfl | rfl | rfl | rfl
  · refine ⟨4, xs_cLoop 0 (by decide) 3 i (by decide) (by omega) ?_⟩
    rw [show i / 7 ^ 3 % 7 = ms_dg i 0 from by show i / 343 % 7 = i / 343; omega]
    exact k
  · exact ⟨3, xs_cLoop 1 (by decide) 2 i (by decide) (by omega) k⟩
  · exact ⟨2, xs_cLoop 2 (by decide) 1 i (by decide) (by omega) k⟩
  · refine ⟨1, xs_cLoop 3 (by decide) 0 i (by decide) (by omega) ?_⟩
    rw [show i / 7 ^ 0 % 7 = ms_dg i 3 from by show i / 1 % 7 = i % 7; omega]
    exact k
theorem xs_vlLoop {post : Int32 → Prop} {v : Int32} {a o : Nat → Int32} {c x : Nat} (hc : c ≤ 6) (hx : x < 4) :
    ∀ d i, i + d = 2401 → post (ms_vl (ms_sol a o c) v x d i) → wX_value_20 post v (nI x) (nI c) a o (d + 1) (nI (ms_ct (ms_sol a o c) i)) (nI i) := by
  intro d
  induction d with
  | zero =>
    intro i hi k
    obtain rfl : i = 2401 := by omega
    exact br_t ms_end k
  | succ d ih =>
    intro i hi k
    refine br_f (ms_not (by omega)) (xs_sol hc (by omega) ?_)
    by_cases h : ms_sol a o c i = true
    · rw [if_pos h]
      by_cases e : nI (ms_ct (ms_sol a o c) i) = v
      · rw [ms_vlHit h e] at k
        exact br_f (by decide) (br_t e (xs_coord (by omega) hx k))
      · rw [ms_vlMiss h e] at k
        have hn := ih (i + 1) (by omega) k
        rw [ms_ctT h] at hn
        exact br_f (by decide) (br_f e (nm_r (nI_1 _) (nm_r (nI_1 i) hn)))
    · rw [ms_vlNo h] at k
      have hn := ih (i + 1) (by omega) k
      rw [ms_ctF h] at hn
      rw [if_neg h]
      exact br_t rfl (nm_r (nI_1 i) hn)
/-- the union of what unknown x is in the solutions -/
def ms_ps (a o : Nat → Int32) (c x n : Nat) : Nat := ms_or (ms_sol a o c) (fun i => ms_dg i x) n
theorem ms_psLt (a o : Nat → Int32) (c x : Nat) : ms_ps a o c x 2401 < 128 := ms_orLt _ _ 7 2401 (fun _ hi => ms_dgLt hi x)
theorem xs_psLoop {post : Int32 → Prop} {a o : Nat → Int32} {c x : Nat} (hc : c ≤ 6) (hx : x < 4) (k : post (nI (ms_ps a o c x 2401))) :
    ∀ d i, i + d = 2401 → wX_valuesInSolutions_4 post (nI x) (nI c) a o (d + 1) (nI (ms_ps a o c x i)) (nI i) := by
  intro d
  induction d with
  | zero =>
    intro i hi
    obtain rfl : i = 2401 := by omega
    exact br_t ms_end k
  | succ d ih =>
    intro i hi
    have hn := ih (i + 1) (by omega)
    refine br_f (ms_not (by omega)) (xs_sol hc (by omega) ?_)
    by_cases h : ms_sol a o c i = true
    · have e : ms_ps a o c x (i + 1) = ms_ps a o c x i ||| 2 ^ (ms_dg i x) := ms_orT h
      rw [e] at hn
      have hd := ms_dgLt (show i < 2401 by omega) x
      rw [if_pos h]
      exact br_f (by decide) (xs_coord (by omega) hx (nm_r (ms_put1 _ (by omega)) (nm_r (nI_1 i) hn)))
    · have e : ms_ps a o c x (i + 1) = ms_ps a o c x i := ms_orF h
      rw [e] at hn
      rw [if_neg h]
      exact br_t rfl (nm_r (nI_1 i) hn)
theorem xs_ps {post : Int32 → Prop} {a o : Nat → Int32} {c x : Nat} (hc : c ≤ 6) (hx : x < 4) (k : post (nI (ms_ps a o c x 2401))) : wpX_valuesInSolutions post (nI c, a, o) (nI x) := by
  unfold wpX_valuesInSolutions
  exact ⟨2402, xs_psLoop hc hx k 2401 0 rfl⟩
theorem xs_bitLoop {post : Int32 → Prop} {c : Int32} {a o : Nat → Int32} {m : Nat} (hm : m < 2 ^ 31) (k : post (nI (ms_pc m 7))) :
    ∀ d b, b + d = 7 → wX_bitCount_4 post (nI m) c a o (d + 1) (nI (ms_pc m b)) (nI b) := by
  intro d
  induction d with
  | zero =>
    intro b hb
    obtain rfl : b = 7 := by omega
    exact br_t (by decide +kernel) k
  | succ d ih =>
    intro b hb
    have e : nI (ms_pc m b) + (((nI m).toUInt32 >>> ((nI b).toUInt32 &&& Int32.toUInt32 31)).toInt32 &&& 1) = nI (ms_pc m (b + 1)) := by
      rw [ms_ubit hm (by omega), nI_add]; rfl
    exact br_f (nI_ge (b := 7) (by omega) (by decide)) (nm_r e (nm_r (nI_1 b) (ih (b + 1) (by omega))))
theorem xs_bit {post : Int32 → Prop} {c : Int32} {a o : Nat → Int32} {m : Nat} (hm : m < 2 ^ 31) (k : post (nI (ms_pc m 7))) : wpX_bitCount post (c, a, o) (nI m) := by
  unfold wpX_bitCount
  exact ⟨8, xs_bitLoop hm k 7 0 rfl⟩
theorem ms_toStep {R j : Nat} (h : R < 2 ^ 31) : nI (ms_to R j) * 7 + (nI (R / 7 ^ j) - nI (R / 7 ^ j) / 7 * 7) = nI (ms_to R (j + 1)) := by
  rw [ms_r7 (ms_dvLt h j), show nI (ms_to R j) * 7 = nI (ms_to R j * 7) from pk_mul _ 7, nI_add]; rfl
theorem ms_dvStep {R j : Nat} (h : R < 2 ^ 31) : nI (R / 7 ^ j) / 7 = nI (R / 7 ^ (j + 1)) := by rw [ms_d7 (ms_dvLt h j), ms_dv]
theorem xs_rkLoop {post : Int32 → Prop} {a o : Nat → Int32} {c R : Nat} (hc : c ≤ 6) (hR : R < 2 ^ 31) (k : post (nI (ms_ct (ms_sol a o c) (ms_to R 4)))) :
    ∀ d j, j + d = 4 → wX_rank_10 post (nI c) a o (d + 1) (nI (R / 7 ^ j)) (nI (ms_to R j)) (nI j) := by
  intro d
  induction d with
  | zero =>
    intro j hj
    obtain rfl : j = 4 := by omega
    have ht := ms_toLt R 4
    exact br_t (by decide +kernel) (xs_sb hc (by omega) k)
  | succ d ih =>
    intro j hj
    exact br_f (nI_ge (b := 4) (by omega) (by decide)) ⟨ms_n7, nm_r (ms_toStep hR) ⟨ms_n7, nm_r (ms_dvStep hR) (nm_r (nI_1 j) (ih (j + 1) (by omega)))⟩⟩
theorem xs_foLoop {post : Int32 → Prop} {a o : Nat → Int32} {c e : Nat} (hc : c ≤ 6) (he : e < 6) :
    ∀ d i, i + d = 2401 → post (ms_fo (ms_sol a o c) (fun i => ms_bad a e i) d i) → wX_follows_12 post (nI e) (nI c) a o (d + 1) (nI i) := by
  intro d
  induction d with
  | zero =>
    intro i hi k
    obtain rfl : i = 2401 := by omega
    exact br_t ms_end k
  | succ d ih =>
    intro i hi k
    refine br_f (ms_not (by omega)) (xs_sol hc (by omega) ?_)
    by_cases h : ms_sol a o c i = true
    · rw [if_pos h]
      refine br_f (by decide) (xs_holds he (by omega) ?_)
      by_cases b : ms_bad a e i = true
      · rw [ms_foHit h b] at k
        rw [if_pos b]
        exact br_t rfl k
      · rw [ms_foNo (fun z => b z.2)] at k
        rw [if_neg b]
        exact br_f (by decide) (nm_r (nI_1 i) (ih (i + 1) (by omega) k))
    · rw [ms_foNo (fun z => h z.1)] at k
      rw [if_neg h]
      exact br_t rfl (nm_r (nI_1 i) (ih (i + 1) (by omega) k))
theorem ms_one64 {k : Nat} (hk : k < 64) : (1 : Int64) <<< ((nI k).toInt64 &&& 63) = lN (2 ^ k) := by
  have h := wb_shl 1 hk
  rw [Nat.one_mul] at h
  exact h
theorem ms_ptLt {a o : Nat → Int32} {c : Nat} (hc : c ≤ 6) (n : Nat) : ms_or (fun _ => true) (ms_bx a o c) n < 2 ^ 64 := ms_orLt _ _ 64 n (fun i _ => ms_bx64 hc a o i)
theorem xs_ptLoop {post : Int64 → Prop} {a o : Nat → Int32} {c : Nat} (hc : c ≤ 6) (k : post (lN (ms_or (fun _ => true) (ms_bx a o c) 2401))) :
    ∀ d i, i + d = 2401 → wX_brokenPatterns_4 post (nI c) a o (d + 1) (lN (ms_or (fun _ => true) (ms_bx a o c) i)) (nI i) := by
  intro d
  induction d with
  | zero =>
    intro i hi
    obtain rfl : i = 2401 := by omega
    exact br_t ms_end k
  | succ d ih =>
    intro i hi
    have hn := ih (i + 1) (by omega)
    rw [ms_orT (p := fun _ => true) rfl] at hn
    have hb := ms_bx64 hc a o i
    have e : lN (ms_or (fun _ => true) (ms_bx a o c) i) ||| ((1 : Int64) <<< ((nI (ms_bx a o c i)).toInt64 &&& 63)) = lN (ms_or (fun _ => true) (ms_bx a o c) i ||| 2 ^ (ms_bx a o c i)) := by
      rw [ms_one64 hb, wb_or (ms_ptLt hc i) (wb_lt2 hb)]
    exact br_f (ms_not (by omega)) (xs_broken hc (by omega) (nm_r e (nm_r (nI_1 i) hn)))
theorem xs_pt {post : Int64 → Prop} {a o : Nat → Int32} {c : Nat} (hc : c ≤ 6) (k : post (lN (ms_or (fun _ => true) (ms_bx a o c) 2401))) : wpX_brokenPatterns post (nI c, a, o) := by
  unfold wpX_brokenPatterns
  exact ⟨2402, xs_ptLoop hc k 2401 0 rfl⟩
theorem ms_lbT {p m : Nat} (hp : p < 2 ^ 64) (hm : m < 64) (t : p.testBit m = true) : ((lN p).toUInt64 >>> ((nI m).toInt64.toUInt64 &&& Int64.toUInt64 63)).toInt64 &&& 1 = 1 := by
  rw [Nat.testBit_eq_decide_div_mod_eq] at t
  rw [wb_bit hp hm, of_decide_eq_true t]; rfl
theorem ms_lbF {p m : Nat} (hp : p < 2 ^ 64) (hm : m < 64) (t : ¬ p.testBit m = true) : ¬ ((lN p).toUInt64 >>> ((nI m).toInt64.toUInt64 &&& Int64.toUInt64 63)).toInt64 &&& 1 = 1 := by
  rw [Nat.testBit_eq_decide_div_mod_eq, decide_eq_true_eq] at t
  rw [wb_bit hp hm]
  have h0 : p / 2 ^ m % 2 = 0 := by
    generalize p / 2 ^ m = z at t
    omega
  rw [h0]; decide
theorem xs_koLoop {post : Int32 → Prop} {c : Int32} {a o : Nat → Int32} {p s : Nat} (hp : p < 2 ^ 64) (hs : s < 64) (k : post (if ms_ko p s = true then 1 else 0)) :
    ∀ d m, m + d = 64 → 1 ≤ m → (∀ j, j < m → 1 ≤ j → p.testBit j = true → ¬ j &&& s = 0) → wX_keepsOut_3 post (nI s) (lN p) c a o (d + 1) (nI m) := by
  intro d
  induction d with
  | zero =>
    intro m hm _ H
    obtain rfl : m = 64 := by omega
    rw [if_pos ((ms_koI p s).mpr H)] at k
    exact br_t (by decide +kernel) k
  | succ d ih =>
    intro m hm h1 H
    have h64 : ¬ (64 : Int32) ≤ nI m := nI_ge (b := 64) (by omega) (by decide)
    by_cases t : p.testBit m = true
    · refine br_f h64 (br_t (ms_lbT hp (by omega) t) (br_f (show ¬ (1 : Int32) = 0 by decide) ?_))
      have hl : m &&& s < 64 := Nat.and_lt_two_pow (n := 6) m hs
      refine pk_eq (m &&& s) 0 (fun z => ?_) (fun z => nm_r (nI_1 m) (ih (m + 1) (by omega) (by omega) (lt_s H (fun _ _ => z)))) (nx_and m s)
      rw [if_neg (fun y => (ms_koI p s).mp y m (by omega) h1 t z)] at k
      exact k
    · exact br_f h64 (br_f (ms_lbF hp (by omega) t) (br_t rfl (nm_r (nI_1 m) (ih (m + 1) (by omega) (by omega) (lt_s H (fun _ y => absurd y t))))))
theorem xs_ko {post : Int32 → Prop} {c : Int32} {a o : Nat → Int32} {p s : Nat} (hp : p < 2 ^ 64) (hs : s < 64) (k : post (if ms_ko p s = true then 1 else 0)) : wpX_keepsOut post (c, a, o) (nI s) (lN p) := by
  unfold wpX_keepsOut
  exact ⟨64, xs_koLoop hp hs k 63 1 rfl (by omega) (fun j h h1 => absurd h1 (by omega))⟩
theorem xs_ndLoop {post : Int32 → Prop} {c : Int32} {a o : Nat → Int32} {p : Nat} (hp : p < 2 ^ 64) (k : post (nI (ms_mn (ms_ko p) 64))) :
    ∀ d s, s + d = 64 → wX_needed_11 post (lN p) c a o (d + 1) (nI (ms_mn (ms_ko p) s)) (nI s) := by
  intro d
  induction d with
  | zero =>
    intro s hs
    obtain rfl : s = 64 := by omega
    exact br_t (by decide +kernel) k
  | succ d ih =>
    intro s hs
    have hn := ih (s + 1) (by omega)
    have h6 := ms_mn6 (ms_ko p) s
    have hpc := ms_pcLe s 6
    refine br_f (nI_ge (b := 64) (by omega) (by decide)) (xs_bit (by omega) ?_)
    rw [ms_pc67 s (by omega)]
    refine pk_le (ms_mn (ms_ko p) s) (ms_pc s 6) (fun h => ?_) (fun h => xs_ko hp (by omega) ?_)
    · rw [ms_mnF (fun z => absurd z.1 (by omega))] at hn
      exact nm_r (nI_1 s) hn
    · by_cases t : ms_ko p s = true
      · rw [ms_mnT h t] at hn
        rw [if_pos t]
        exact br_f (by decide) (nm_r (nI_1 s) hn)
      · rw [ms_mnF (fun z => t z.2)] at hn
        rw [if_neg t]
        exact br_t rfl (nm_r (nI_1 s) hn)
theorem xs_nd {post : Int32 → Prop} {a o : Nat → Int32} {c : Nat} (hc : c ≤ 6) (k : post (nI (ms_mn (ms_ko (ms_or (fun _ => true) (ms_bx a o c) 2401)) 64))) : wpX_needed post (nI c, a, o) := by
  unfold wpX_needed
  refine xs_pt hc ?_
  exact ⟨65, xs_ndLoop (ms_ptLt hc 2401) k 64 0 rfl⟩
end
section
/-! Y's own methods, each with a general post -/
theorem ys_byLoop {post : Int32 → Prop} {kn : Int32} {a o b ct : Nat → Int32} {c i : Nat} (hc : c ≤ 6) (k : post (nI (ms_by a c i))) :
    ∀ d q, q + d = c → wY_brokenBy_6 post (nI (i / 343)) (nI (i / 49 % 7)) (nI (i / 7 % 7)) (nI (i % 7)) (nI c) kn a o b ct (d + 1) (nI (ms_by a q i)) (nI q) := by
  intro d
  induction d with
  | zero =>
    intro q hq
    obtain rfl : q = c := by omega
    exact br_t (nI_le (Nat.le_refl _) (by omega)) k
  | succ d ih =>
    intro q hq
    have h : ¬ nI c ≤ nI q := nI_ge (by omega) (by omega)
    have hn := ih (q + 1) (by omega)
    have x1 : nI (q * 5) + 1 = nI (q * 5 + 1) := nI_add (q * 5) 1
    have x2 : nI (q * 5) + 2 = nI (q * 5 + 2) := nI_add (q * 5) 2
    have x3 : nI (q * 5) + 3 = nI (q * 5 + 3) := nI_add (q * 5) 3
    have x4 : nI (q * 5) + 4 = nI (q * 5 + 4) := nI_add (q * 5) 4
    have i0 : vp_in (nI (q * 5)) 30 := vp_in_nI (by omega) (by decide)
    have i1 : vp_in (nI (q * 5) + 1) 30 := by rw [x1]; exact vp_in_nI (by omega) (by decide)
    have i2 : vp_in (nI (q * 5) + 2) 30 := by rw [x2]; exact vp_in_nI (by omega) (by decide)
    have i3 : vp_in (nI (q * 5) + 3) 30 := by rw [x3]; exact vp_in_nI (by omega) (by decide)
    have i4 : vp_in (nI (q * 5) + 4) 30 := by rw [x4]; exact vp_in_nI (by omega) (by decide)
    have e : a (nI (q * 5)).toNatClampNeg * nI (i / 343) + a (nI (q * 5) + 1).toNatClampNeg * nI (i / 49 % 7) + a (nI (q * 5) + 2).toNatClampNeg * nI (i / 7 % 7) + a (nI (q * 5) + 3).toNatClampNeg * nI (i % 7) = ms_sum a q i := by
      rw [x1, x2, x3, nI_clamp (by omega), nI_clamp (by omega), nI_clamp (by omega), nI_clamp (by omega)]; rfl
    have e4 : (nI (q * 5) + 4).toNatClampNeg = q * 5 + 4 := by rw [x4]; exact nI_clamp (by omega)
    refine br_f h (nm_r (ms_m5 q) ⟨i0, i1, i2, i3, nm_r e ⟨ms_n7, i4, ?_⟩⟩)
    rw [e4]
    by_cases z : ms_sum a q i - ms_sum a q i / 7 * 7 = a (q * 5 + 4)
    · have hp : ¬ (fun q => ms_bad a q i) q = true := fun y => (of_decide_eq_true y) z
      have eb : ms_by a (q + 1) i = ms_by a q i := ms_mkF hp
      rw [eb] at hn
      exact br_t z (nm_r (nI_1 q) hn)
    · have hp : (fun q => ms_bad a q i) q = true := decide_eq_true z
      have eb : ms_by a (q + 1) i = ms_by a q i ||| 2 ^ q := ms_mkT hp
      rw [eb] at hn
      exact br_f z (nm_r (ms_put1 _ (by omega)) (nm_r (nI_1 q) hn))
theorem ys_by {post : Int32 → Prop} {kn : Int32} {a o b ct : Nat → Int32} {c i : Nat} (hc : c ≤ 6) (hi : i < 2401) (k : post (nI (ms_by a c i))) :
    wpY_brokenBy post (nI c, kn, a, o, b, ct) (nI i / 343) (nI i / 49 - nI i / 49 / 7 * 7) (nI i / 7 - nI i / 7 / 7 * 7) (nI i - nI i / 7 * 7) := by
  rw [ms_r7 (show i < 2 ^ 31 by omega), ms_d343 (by omega), ms_d49 (by omega), ms_d7 (show i < 2 ^ 31 by omega), ms_r7 (by omega), ms_r7 (by omega)]
  unfold wpY_brokenBy
  exact ⟨c + 1, ys_byLoop hc k c 0 (by omega)⟩
/-- Y's table is worked out -/
def ms_ok (a : Nat → Int32) (c : Nat) (b : Nat → Int32) : Prop := ∀ i, i < 2401 → b i = nI (ms_by a c i)
theorem ys_woLoop {post : SY → Prop} {a o ct : Nat → Int32} {c : Nat} (hc : c ≤ 6) (k : ∀ b, ms_ok a c b → post (nI c, 1, a, o, b, ct)) :
    ∀ d i b, i + d = 2401 → (∀ j, j < i → b j = nI (ms_by a c j)) → wY_workOut_15 post (nI c) 1 (d + 1) (nI i) a o b ct := by
  intro d
  induction d with
  | zero =>
    intro i b hi hb
    obtain rfl : i = 2401 := by omega
    exact br_t ms_end (k b hb)
  | succ d ih =>
    intro i b hi hb
    have hin : vp_in (nI i) 2401 := vp_in_nI (by omega) (by decide)
    refine br_f (ms_not (by omega)) ⟨ms_n343, ms_n49, ms_n7, ms_n7, ms_n7, ms_n7, ys_by hc (by omega) ⟨hin, nm_e (nm_r (nI_1 i) (ih (i + 1) _ (by omega) ?_))⟩⟩
    rw [ms_cl (show i < 2401 by omega)]
    refine lt_s (fun j hj => ?_) pk_us
    rw [pk_un (by omega)]
    exact hb j hj
theorem ys_wo {post : SY → Prop} {kn : Int32} {a o b ct : Nat → Int32} {c : Nat} (hc : c ≤ 6) (hK : ¬ kn = 0 → ms_ok a c b) (k : ∀ kn' b', ms_ok a c b' → post (nI c, kn', a, o, b', ct)) : wpY_workOut post (nI c, kn, a, o, b, ct) := by
  unfold wpY_workOut
  exact br_c (fun _ => ⟨2402, ys_woLoop hc (fun b' h => k 1 b' h) 2401 0 b rfl (fun j hj => absurd hj (Nat.not_lt_zero j))⟩) (fun h => k kn b (hK h))
theorem ys_onLoop {post : Int32 → Prop} {kn : Int32} {a o b ct : Nat → Int32} {c : Nat} (hc : c ≤ 6) (k : post (nI (ms_al o c))) :
    ∀ d q, q + d = c → wY_ons_4 post (nI c) kn a o b ct (d + 1) (nI (ms_al o q)) (nI q) := by
  intro d
  induction d with
  | zero =>
    intro q hq
    obtain rfl : q = c := by omega
    exact br_t (nI_le (Nat.le_refl _) (by omega)) k
  | succ d ih =>
    intro q hq
    have h : ¬ nI c ≤ nI q := nI_ge (by omega) (by omega)
    have hin : vp_in (nI q) 6 := vp_in_nI (by omega) (by decide)
    have hcl : (nI q).toNatClampNeg = q := nI_clamp (by omega)
    have hn := ih (q + 1) (by omega)
    by_cases z : o q = 0
    · have hp : ¬ ms_on o q = true := fun y => (of_decide_eq_true y) z
      have e : ms_al o (q + 1) = ms_al o q := ms_mkF hp
      rw [e] at hn
      exact br_f h ⟨hin, br_t (by rw [hcl]; exact z) (nm_r (nI_1 q) hn)⟩
    · have hp : ms_on o q = true := decide_eq_true z
      have e : ms_al o (q + 1) = ms_al o q ||| 2 ^ q := ms_mkT hp
      rw [e] at hn
      exact br_f h ⟨hin, br_f (by rw [hcl]; exact z) (nm_r (ms_put1 _ (by omega)) (nm_r (nI_1 q) hn))⟩
theorem ys_on {post : Int32 → Prop} {kn : Int32} {a o b ct : Nat → Int32} {c : Nat} (hc : c ≤ 6) (k : post (nI (ms_al o c))) : wpY_ons post (nI c, kn, a, o, b, ct) := by
  unfold wpY_ons
  exact ⟨c + 1, ys_onLoop hc k c 0 (by omega)⟩
theorem ys_cell {a o b : Nat → Int32} {c i : Nat} (hb : ms_ok a c b) (hi : i < 2401) : b (nI i).toNatClampNeg &&& nI (ms_al o c) = nI (ms_bx a o c i) := by
  rw [ms_cl hi, hb i hi, nx_and, ms_bxE]
theorem ys_cT {a o b : Nat → Int32} {c i : Nat} (hb : ms_ok a c b) (hi : i < 2401) (h : ms_sol a o c i = true) : b (nI i).toNatClampNeg &&& nI (ms_al o c) = 0 := by
  rw [ys_cell hb hi]; exact ms_sT h
theorem ys_cF {a o b : Nat → Int32} {c i : Nat} (hc : c ≤ 6) (hb : ms_ok a c b) (hi : i < 2401) (h : ¬ ms_sol a o c i = true) : ¬ b (nI i).toNatClampNeg &&& nI (ms_al o c) = 0 := by
  rw [ys_cell hb hi]; exact ms_sF hc h
theorem ys_in {i : Nat} (h : i < 2401) : vp_in (nI i) 2401 := vp_in_nI h (by decide)
theorem ys_bfLoop {post : Int32 → SY → Prop} {kn : Int32} {a o b ct : Nat → Int32} {c t : Nat} (hc : c ≤ 6) (ht : t ≤ 2401) (hb : ms_ok a c b)
    (k : post (nI (ms_ct (ms_sol a o c) t)) (nI c, kn, a, o, b, ct)) :
    ∀ d i, i + d = t → wY_before_14 post (nI t) (nI (ms_al o c)) (nI c) kn a o b ct (d + 1) (nI (ms_ct (ms_sol a o c) i)) (nI i) := by
  intro d
  induction d with
  | zero =>
    intro i hi
    obtain rfl : i = t := by omega
    exact br_t (nI_le (Nat.le_refl _) (by omega)) k
  | succ d ih =>
    intro i hi
    have hn := ih (i + 1) (by omega)
    refine br_f (nI_ge (by omega) (by omega)) ⟨ys_in (by omega), ?_⟩
    by_cases h : ms_sol a o c i = true
    · rw [ms_ctT h] at hn
      exact br_t (ys_cT hb (by omega) h) (nm_r (nI_1 _) (nm_r (nI_1 i) hn))
    · rw [ms_ctF h] at hn
      exact br_f (ys_cF hc hb (by omega) h) (nm_r (nI_1 i) hn)
theorem ys_bf {post : Int32 → SY → Prop} {kn : Int32} {a o b ct : Nat → Int32} {c t : Nat} (hc : c ≤ 6) (hK : ¬ kn = 0 → ms_ok a c b) (ht : t ≤ 2401)
    (k : ∀ kn' b', ms_ok a c b' → post (nI (ms_ct (ms_sol a o c) t)) (nI c, kn', a, o, b', ct)) : wpY_before post (nI c, kn, a, o, b, ct) (nI t) := by
  unfold wpY_before
  refine ys_wo hc hK (fun kn' b' h => ?_)
  refine ys_on hc ?_
  exact ⟨t + 1, ys_bfLoop hc ht h (k kn' b' h) t 0 (by omega)⟩
theorem ys_dg {post : Int32 → Prop} {v : SY} {i x : Nat} (hi : i < 2401) (hx : x < 4) (k : post (nI (ms_dg i x))) : wpY_digit post v (nI i) (nI x) := by
  obtain ⟨v1, v2, v3, v4, v5, v6⟩ := v
  have h4 : x = 0 ∨ x = 1 ∨ x = 2 ∨ x = 3 := by omega
  have e1 : nI i / 343 = nI (i / 343) := ms_d343 (by omega)
  have e2 : nI i / 49 - nI i / 49 / 7 * 7 = nI (i / 49 % 7) := by rw [ms_d49 (by omega), ms_r7 (by omega)]
  have e3 : nI i / 7 - nI i / 7 / 7 * 7 = nI (i / 7 % 7) := by rw [ms_d7 (show i < 2 ^ 31 by omega), ms_r7 (by omega)]
  have e4 : nI i - nI i / 7 * 7 = nI (i % 7) := ms_r7 (by omega)
  unfold wpY_digit
  rcases h4 with rfl | rfl | rfl | rfl
  · refine br_t (by decide) ⟨ms_n343, ?_⟩
    rw [e1]; exact k
  · refine br_f (by decide) (br_t (by decide) ⟨ms_n49, ms_n7, ?_⟩)
    rw [e2]; exact k
  · refine br_f (by decide) (br_f (by decide) (br_t (by decide) ⟨ms_n7, ms_n7, ?_⟩))
    rw [e3]; exact k
  · refine br_f (by decide) (br_f (by decide) (br_f (by decide) ⟨ms_n7, ?_⟩))
    rw [e4]; exact k
theorem ys_vlLoop {post : Int32 → SY → Prop} {v kn : Int32} {a o b ct : Nat → Int32} {c x : Nat} (hc : c ≤ 6) (hx : x < 4) (hb : ms_ok a c b) :
    ∀ d i, i + d = 2401 → post (ms_vl (ms_sol a o c) v x d i) (nI c, kn, a, o, b, ct) → wY_value_27 post v (nI x) (nI (ms_al o c)) (nI c) kn a o b ct (d + 1) (nI (ms_ct (ms_sol a o c) i)) (nI i) := by
  intro d
  induction d with
  | zero =>
    intro i hi k
    obtain rfl : i = 2401 := by omega
    exact br_t ms_end k
  | succ d ih =>
    intro i hi k
    refine br_f (ms_not (by omega)) ⟨ys_in (by omega), ?_⟩
    by_cases h : ms_sol a o c i = true
    · refine br_t (ys_cT hb (by omega) h) ?_
      by_cases e : nI (ms_ct (ms_sol a o c) i) = v
      · rw [ms_vlHit h e] at k
        exact br_t e (ys_dg (by omega) hx k)
      · rw [ms_vlMiss h e] at k
        have hn := ih (i + 1) (by omega) k
        rw [ms_ctT h] at hn
        exact br_f e (nm_r (nI_1 _) (nm_r (nI_1 i) hn))
    · rw [ms_vlNo h] at k
      have hn := ih (i + 1) (by omega) k
      rw [ms_ctF h] at hn
      exact br_f (ys_cF hc hb (by omega) h) (nm_r (nI_1 i) hn)
theorem ys_psLoop {post : Int32 → SY → Prop} {kn : Int32} {a o b ct : Nat → Int32} {c x : Nat} (hc : c ≤ 6) (hx : x < 4) (hb : ms_ok a c b)
    (k : post (nI (ms_ps a o c x 2401)) (nI c, kn, a, o, b, ct)) :
    ∀ d i, i + d = 2401 → wY_possible_25 post (nI x) (nI (ms_al o c)) (nI c) kn a o b ct (d + 1) (nI (ms_ps a o c x i)) (nI i) := by
  intro d
  induction d with
  | zero =>
    intro i hi
    obtain rfl : i = 2401 := by omega
    exact br_t ms_end k
  | succ d ih =>
    intro i hi
    have hn := ih (i + 1) (by omega)
    refine br_f (ms_not (by omega)) ⟨ys_in (by omega), ?_⟩
    by_cases h : ms_sol a o c i = true
    · have e : ms_ps a o c x (i + 1) = ms_ps a o c x i ||| 2 ^ (ms_dg i x) := ms_orT h
      rw [e] at hn
      have hd := ms_dgLt (show i < 2401 by omega) x
      exact br_t (ys_cT hb (by omega) h) (ys_dg (by omega) hx (nm_r (ms_put1 _ (by omega)) (nm_r (nI_1 i) hn)))
    · have e : ms_ps a o c x (i + 1) = ms_ps a o c x i := ms_orF h
      rw [e] at hn
      exact br_f (ys_cF hc hb (by omega) h) (nm_r (nI_1 i) hn)
theorem ys_psT {post : Int32 → SY → Prop} {kn : Int32} {a o b ct : Nat → Int32} {c x : Nat} (hc : c ≤ 6) (hx : x < 4) (hK : ¬ kn = 0 → ms_ok a c b)
    (k : ∀ kn' b', ms_ok a c b' → post (nI (ms_ps a o c x 2401)) (nI c, kn', a, o, b', ct)) : wpY_possible post (nI c, kn, a, o, b, ct) (nI x) := by
  unfold wpY_possible
  refine br_f (nI_pos (by omega)) (br_t (nI_le (b := 3) (by omega) (by decide)) ?_)
  refine ys_wo hc hK (fun kn' b' h => ?_)
  refine ys_on hc ?_
  exact ⟨2402, ys_psLoop hc hx h (k kn' b' h) 2401 0 rfl⟩
theorem ms_no3 {x : Int32} (hx : x < 0 ∨ 4 ≤ x) (h : ¬ x < 0) : ¬ x ≤ 3 := by
  intro z
  have h4 := hx.resolve_left h
  rw [Int32.le_iff_toInt_le] at h4 z
  have a4 : (4 : Int32).toInt = 4 := by decide
  have a3 : (3 : Int32).toInt = 3 := by decide
  omega
theorem ys_psF {post : Int32 → SY → Prop} {kn c x : Int32} {a o b ct : Nat → Int32} (hx : x < 0 ∨ 4 ≤ x) (k : post 0 (c, kn, a, o, b, ct)) : wpY_possible post (c, kn, a, o, b, ct) x := by
  unfold wpY_possible
  exact br_c (fun _ => k) (fun h => br_f (ms_no3 hx h) k)
/-- what fixed answers for the union m -/
def ms_fx (m : Nat) : Int32 := if ms_pc m 7 = 1 then 1 else 0
theorem ys_fxLoop {post : Int32 → SY → Prop} {kn c : Int32} {a o b ct : Nat → Int32} {m : Nat} (hm : m < 128) (k : post (ms_fx m) (c, kn, a, o, b, ct)) :
    ∀ d v, v + d = 7 → (∀ w, w < v → ¬ m = 2 ^ w) → wY_fixed_8 post (nI m) c kn a o b ct (d + 1) (nI v) := by
  intro d
  induction d with
  | zero =>
    intro v hv H
    obtain rfl : v = 7 := by omega
    rw [show ms_fx m = 0 from if_neg (ms_pcN m hm H)] at k
    exact br_t (by decide +kernel) k
  | succ d ih =>
    intro v hv H
    refine br_f (nI_ge (b := 7) (by omega) (by decide)) ?_
    rw [ms_one v (by omega)]
    have hp : 2 ^ v < 2 ^ 7 := wb_lt2 (by omega)
    refine pk_eq m (2 ^ v) (fun z => ?_) (fun z => nm_r (nI_1 v) (ih (v + 1) (by omega) (lt_s H z)))
    rw [show ms_fx m = 1 from if_pos (by rw [z]; exact ms_pc1 v (by omega))] at k
    exact k
theorem ys_rkLoop {post : Int32 → SY → Prop} {kn : Int32} {a o b ct : Nat → Int32} {c R : Nat} (hc : c ≤ 6) (hK : ¬ kn = 0 → ms_ok a c b) (hR : R < 2 ^ 31)
    (k : ∀ kn' b', ms_ok a c b' → post (nI (ms_ct (ms_sol a o c) (ms_to R 4))) (nI c, kn', a, o, b', ct)) :
    ∀ d j, j + d = 4 → wY_rank_11 post (nI c) kn a o b ct (d + 1) (nI (R / 7 ^ j)) (nI (ms_to R j)) (nI j) := by
  intro d
  induction d with
  | zero =>
    intro j hj
    obtain rfl : j = 4 := by omega
    have ht := ms_toLt R 4
    exact br_t (by decide +kernel) (ys_bf hc hK (by omega) k)
  | succ d ih =>
    intro j hj
    exact br_f (nI_ge (b := 4) (by omega) (by decide)) ⟨ms_n7, nm_r (ms_toStep hR) ⟨ms_n7, nm_r (ms_dvStep hR) (nm_r (nI_1 j) (ih (j + 1) (by omega)))⟩⟩
theorem ys_shT {a b : Nat → Int32} {c e i : Nat} (hc : c ≤ 6) (he : e < c) (hb : ms_ok a c b) (hi : i < 2401) (h : ms_bad a e i = true) : (b (nI i).toNatClampNeg >>> (nI e &&& 31)) &&& 1 = 1 := by
  have h6 := ms_by64 hc a i
  have t : (ms_by a c i).testBit e = true := by
    unfold ms_by
    rw [ms_tb, decide_eq_true he, h]; rfl
  rw [Nat.testBit_eq_decide_div_mod_eq] at t
  rw [ms_cl hi, hb i hi, ms_sbit (by omega) (by omega), of_decide_eq_true t]; rfl
theorem ys_shF {a b : Nat → Int32} {c e i : Nat} (hc : c ≤ 6) (he : e < c) (hb : ms_ok a c b) (hi : i < 2401) (h : ¬ ms_bad a e i = true) : ¬ (b (nI i).toNatClampNeg >>> (nI e &&& 31)) &&& 1 = 1 := by
  have h6 := ms_by64 hc a i
  have t : ¬ (ms_by a c i).testBit e = true := by
    unfold ms_by
    rw [ms_tb, decide_eq_true he, Bool.true_and]
    exact h
  rw [Nat.testBit_eq_decide_div_mod_eq, decide_eq_true_eq] at t
  rw [ms_cl hi, hb i hi, ms_sbit (by omega) (by omega)]
  have h0 : ms_by a c i / 2 ^ e % 2 = 0 := by
    generalize ms_by a c i / 2 ^ e = z at t
    omega
  rw [h0]; decide
theorem ys_foLoop {post : Int32 → SY → Prop} {kn : Int32} {a o b ct : Nat → Int32} {c e : Nat} (hc : c ≤ 6) (he : e < c) (hb : ms_ok a c b) :
    ∀ d i, i + d = 2401 → post (ms_fo (ms_sol a o c) (fun i => ms_bad a e i) d i) (nI c, kn, a, o, b, ct) → wY_follows_21 post (nI e) (nI (ms_al o c)) (nI c) kn a o b ct (d + 1) (nI i) := by
  intro d
  induction d with
  | zero =>
    intro i hi k
    obtain rfl : i = 2401 := by omega
    exact br_t ms_end k
  | succ d ih =>
    intro i hi k
    refine br_f (ms_not (by omega)) ⟨ys_in (by omega), ?_⟩
    by_cases h : ms_sol a o c i = true
    · refine br_t (ys_cT hb (by omega) h) ⟨ys_in (by omega), ?_⟩
      by_cases z : ms_bad a e i = true
      · rw [ms_foHit h z] at k
        exact br_t (ys_shT hc he hb (by omega) z) k
      · rw [ms_foNo (fun y => z y.2)] at k
        exact br_f (ys_shF hc he hb (by omega) z) (nm_r (nI_1 i) (ih (i + 1) (by omega) k))
    · rw [ms_foNo (fun y => h y.1)] at k
      exact br_f (ys_cF hc hb (by omega) h) (nm_r (nI_1 i) (ih (i + 1) (by omega) k))
/-! needed -/
theorem ys_meLoop {post : Int32 → Prop} {kn c : Int32} {a o b ct : Nat → Int32} {s : Nat} {f : Nat → Nat} (hs : s < 64) (hf : ∀ m, m < 64 → ct m = nI (f m)) (k : post (nI (ms_sm (fun m => decide (m &&& s = 0)) f 64))) :
    ∀ d m, m + d = 64 → wY_meeting_4 post (nI s) c kn a o b ct (d + 1) (nI (ms_sm (fun m => decide (m &&& s = 0)) f m)) (nI m) := by
  intro d
  induction d with
  | zero =>
    intro m hm
    obtain rfl : m = 64 := by omega
    exact br_t (by decide +kernel) k
  | succ d ih =>
    intro m hm
    have hn := ih (m + 1) (by omega)
    have hl : m &&& s < 64 := Nat.and_lt_two_pow (n := 6) m hs
    refine br_f (nI_ge (b := 64) (by omega) (by decide)) (pk_eq (m &&& s) 0 (fun z => ?_) (fun z => ?_) (nx_and m s))
    · rw [ms_smT (decide_eq_true z)] at hn
      refine ⟨vp_in_nI (by omega) (by decide), nm_r ?_ (nm_r (nI_1 m) hn)⟩
      rw [nI_clamp (by omega), hf m (by omega), nI_add]
    · rw [ms_smF (fun y => z (of_decide_eq_true y))] at hn
      exact nm_r (nI_1 m) hn
theorem ys_me {post : Int32 → Prop} {kn c : Int32} {a o b ct : Nat → Int32} {s : Nat} {f : Nat → Nat} (hs : s < 64) (hf : ∀ m, m < 64 → ct m = nI (f m)) (k : post (nI (ms_sm (fun m => decide (m &&& s = 0)) f 64))) : wpY_meeting post (c, kn, a, o, b, ct) (nI s) := by
  unfold wpY_meeting
  exact ⟨65, ys_meLoop hs hf k 64 0 rfl⟩
/-- how many points meet nothing of s -/
def ms_fr (B : Nat → Nat) (s : Nat) : Nat := ms_ct (fun i => decide (B i &&& s = 0)) 2401
theorem ys_mt {post : Int32 → Prop} {kn c : Int32} {a o b ct : Nat → Int32} {s : Nat} {B : Nat → Nat} (hs : s < 64) (hB : ∀ i, B i < 64) (hf : ∀ m, m < 64 → ct m = nI (ms_cn B 2401 m)) (k : post (nI (ms_fr B s))) : wpY_meeting post (c, kn, a, o, b, ct) (nI s) := by
  refine ys_me hs hf ?_
  rw [ms_smCn _ B 64 2401 (fun i _ => hB i)]
  exact k
theorem ys_szLoop {post : Int32 → SY → Prop} {J : Int32 → Int32 → Prop} {x1 x2 x3 kn c : Int32} {a o b ct : Nat → Int32} {s : Nat} (hs : s < 64)
    (k : wY_needed_100 post J x1 x2 x3 (nI s) c kn a o b ct 1 (nI (ms_pc s 6)) (nI 6)) :
    ∀ d q, q + d = 6 → wY_needed_100 post J x1 x2 x3 (nI s) c kn a o b ct (d + 1) (nI (ms_pc s q)) (nI q) := by
  intro d
  induction d with
  | zero =>
    intro q hq
    obtain rfl : q = 6 := by omega
    exact k
  | succ d ih =>
    intro q hq
    have e : nI (ms_pc s q) + ((nI s >>> (nI q &&& 31)) &&& 1) = nI (ms_pc s (q + 1)) := by
      rw [ms_sbit (by omega) (by omega), nI_add]; rfl
    exact br_f (nI_ge (b := 6) (by omega) (by decide)) (nm_r e (nm_r (nI_1 q) (ih (q + 1) (by omega))))
theorem ys_ndLoop {post : Int32 → SY → Prop} {kn c : Int32} {a o b ct : Nat → Int32} {A : Nat} {B : Nat → Nat} (hA : A < 64) (hB : ∀ i, B i < 64) (hf : ∀ m, m < 64 → ct m = nI (ms_cn B 2401 m))
    (k : post (nI (ms_mn (ms_yo B A) 64)) (c, kn, a, o, b, ct)) :
    ∀ d s, s + d = 64 → wY_needed_87 post (nI A) (nI (ms_fr B A)) c kn a o b ct (d + 1) (nI (ms_mn (ms_yo B A) s)) (nI s) := by
  intro d
  induction d with
  | zero =>
    intro s hs
    obtain rfl : s = 64 := by omega
    exact br_t (by decide +kernel) k
  | succ d ih =>
    intro s hs
    have hn := ih (s + 1) (by omega)
    have h6 := ms_mn6 (ms_yo B A) s
    have hpc := ms_pcLe s 6
    have f1 : ms_fr B s ≤ 2401 := ms_ctLe _ _
    have f2 : ms_fr B A ≤ 2401 := ms_ctLe _ _
    refine br_f (nI_ge (b := 64) (by omega) (by decide)) ⟨7, ys_szLoop (by omega) ?_ 6 0 rfl⟩
    refine br_t (by decide +kernel) ?_
    by_cases z : s &&& A = s
    · refine br_t ((ms_sub64 A hA s (by omega)).mpr z) ?_
      refine pk_le (ms_mn (ms_yo B A) s) (ms_pc s 6) (fun h => ?_) (fun h => ys_mt (by omega) hB hf ?_)
      · rw [ms_mnF (fun y => absurd y.1 (by omega))] at hn
        exact nm_r (nI_1 s) hn
      · refine pk_eq (ms_fr B s) (ms_fr B A) (fun y => ?_) (fun y => ?_)
        · have t : ms_yo B A s = true := by
            unfold ms_yo
            rw [decide_eq_true z, Bool.true_and]
            exact decide_eq_true y
          rw [ms_mnT h t] at hn
          exact nm_r (nI_1 s) hn
        · have t : ¬ ms_yo B A s = true := by
            unfold ms_yo
            rw [decide_eq_true z, Bool.true_and]
            exact fun w => y (of_decide_eq_true w)
          rw [ms_mnF (fun w => t w.2)] at hn
          exact nm_r (nI_1 s) hn
    · refine br_f (fun y => z ((ms_sub64 A hA s (by omega)).mp y)) ?_
      have t : ¬ ms_yo B A s = true := by
        unfold ms_yo
        rw [Bool.and_eq_true, decide_eq_true_eq]
        exact fun w => z w.1
      rw [ms_mnF (fun w => t w.2)] at hn
      exact nm_r (nI_1 s) hn
theorem ms_a63 {m : Nat} (h : m < 64) : nI m &&& 63 = nI m := by
  rw [pk_andN (m := 63) (by omega) 6 (by decide), Nat.mod_eq_of_lt h]
theorem ys_cnLoop {post : Int32 → SY → Prop} {kn : Int32} {a o b : Nat → Int32} {c : Nat} (hc : c ≤ 6) (hb : ms_ok a c b)
    (k : ∀ ct, post (nI (ms_mn (ms_yo (ms_by a c) (ms_al o c)) 64)) (nI c, kn, a, o, b, ct)) :
    ∀ d i ct, i + d = 2401 → (∀ m, m < 64 → ct m = nI (ms_cn (ms_by a c) i m)) → wY_needed_27 post (nI c) kn (d + 1) (nI i) a o b ct := by
  intro d
  induction d with
  | zero =>
    intro i ct hi hf
    obtain rfl : i = 2401 := by omega
    refine br_t ms_end (ys_on hc ?_)
    refine ys_mt (ms_al64 hc o) (ms_by64 hc a) hf ?_
    exact ⟨65, ys_ndLoop (ms_al64 hc o) (ms_by64 hc a) hf (k ct) 64 0 rfl⟩
  | succ d ih =>
    intro i ct hi hf
    have h6 := ms_by64 hc a i
    have e : b (nI i).toNatClampNeg &&& 63 = nI (ms_by a c i) := by rw [ms_cl (by omega), hb i (by omega), ms_a63 h6]
    have hin : vp_in (b (nI i).toNatClampNeg &&& 63) 64 := by rw [e]; exact vp_in_nI h6 (by decide)
    have ecl : (b (nI i).toNatClampNeg &&& 63).toNatClampNeg = ms_by a c i := by rw [e]; exact nI_clamp (by omega)
    refine br_f (ms_not (by omega)) ⟨ys_in (by omega), ys_in (by omega), hin, hin, nm_e (nm_r (nI_1 i) (ih (i + 1) _ (by omega) ?_))⟩
    rw [ecl]
    intro m hm
    rw [ms_cnS]
    by_cases z : ms_by a c i = m
    · subst z
      rw [pk_us, if_pos rfl, hf _ h6, nI_1]
    · rw [pk_un (fun y => z y.symm), if_neg z, Nat.add_zero]
      exact hf m hm
theorem ys_zrLoop {post : Int32 → SY → Prop} {kn : Int32} {a o b : Nat → Int32} {c : Nat} (hc : c ≤ 6) (hb : ms_ok a c b)
    (k : ∀ ct, post (nI (ms_mn (ms_yo (ms_by a c) (ms_al o c)) 64)) (nI c, kn, a, o, b, ct)) :
    ∀ d m ct, m + d = 64 → (∀ j, j < m → ct j = 0) → wY_needed_6 post (nI c) kn (d + 1) (nI m) a o b ct := by
  intro d
  induction d with
  | zero =>
    intro m ct hm hf
    obtain rfl : m = 64 := by omega
    exact br_t (by decide +kernel) ⟨2402, ys_cnLoop hc hb k 2401 0 ct rfl (fun j hj => (hf j hj).trans nI_0.symm)⟩
  | succ d ih =>
    intro m ct hm hf
    refine br_f (nI_ge (b := 64) (by omega) (by decide)) ⟨vp_in_nI (by omega) (by decide), nm_e (nm_r (nI_1 m) (ih (m + 1) _ (by omega) ?_))⟩
    rw [nI_clamp (show m < 2 ^ 31 by omega)]
    refine lt_s (fun j hj => ?_) pk_us
    rw [pk_un (by omega)]
    exact hf j hj
theorem ys_nd {post : Int32 → SY → Prop} {kn : Int32} {a o b ct : Nat → Int32} {c : Nat} (hc : c ≤ 6) (hK : ¬ kn = 0 → ms_ok a c b)
    (k : ∀ kn' b' ct', ms_ok a c b' → post (nI (ms_mn (ms_yo (ms_by a c) (ms_al o c)) 64)) (nI c, kn', a, o, b', ct')) : wpY_needed post (nI c, kn, a, o, b, ct) := by
  unfold wpY_needed
  refine ys_wo hc hK (fun kn' b' h => ?_)
  exact ⟨65, ys_zrLoop hc h (fun ct' => k kn' b' ct' h) 64 0 ct rfl (fun j hj => absurd hj (Nat.not_lt_zero j))⟩
end
section
/-! the calls of either side, at their outer names -/
theorem xs_eqT {post : Int32 → Prop} {a o : Nat → Int32} {c e : Nat} (hc : c ≤ 6) (he : e < c) (k : post 1) : wpX_isEquation post (nI c, a, o) (nI e) := by
  unfold wpX_isEquation
  exact br_f (nI_pos (by omega)) (br_f (nI_ge he (by omega)) k)
theorem xs_eqF {post : Int32 → Prop} {a o : Nat → Int32} {c x : Int32} (hx : x < 0 ∨ c ≤ x) (k : post 0) : wpX_isEquation post (c, a, o) x := by
  unfold wpX_isEquation
  exact br_c (fun _ => k) (fun h => br_t (hx.resolve_left h) k)
theorem ys_bdT {post : Int32 → Prop} {kn : Int32} {a o b ct : Nat → Int32} {c e : Nat} (hc : c ≤ 6) (he : e < c) (k : post 0) : wpY_bad post (nI c, kn, a, o, b, ct) (nI e) := by
  unfold wpY_bad
  exact br_f (nI_pos (by omega)) (br_t (nI_lt he (by omega)) k)
theorem ys_bdF {post : Int32 → Prop} {kn c x : Int32} {a o b ct : Nat → Int32} (hx : x < 0 ∨ c ≤ x) (k : post 1) : wpY_bad post (c, kn, a, o, b, ct) x := by
  unfold wpY_bad
  exact br_c (fun _ => k) (fun h => br_f (Int32.not_lt.mpr (hx.resolve_left h)) k)
/-! add -/
theorem ms_putStep {a : Nat → Int32} {c R j : Nat} (hc : c ≤ 6) (hj : j < 5) (hR : R < 2 ^ 31) :
    upd (ms_put a c R j) (nI c * 5 + nI j).toNatClampNeg (nI (R / 7 ^ j) - nI (R / 7 ^ j) / 7 * 7) = ms_put a c R (j + 1) := by
  rw [ms_m5, nI_add, nI_clamp (by omega), ms_r7 (ms_dvLt hR j)]; rfl
theorem ms_putIn {c j : Nat} (hc : c < 6) (hj : j < 5) : vp_in (nI c * 5 + nI j) 30 := by
  rw [ms_m5, nI_add]
  exact vp_in_nI (by omega) (by decide)
theorem ms_updC {o : Nat → Int32} {c : Nat} (hc : c < 6) (x : Int32) : upd o (nI c).toNatClampNeg x = upd o c x := by rw [nI_clamp (by omega)]
theorem xs_adLoop {post : Int32 → SX → Prop} {a o : Nat → Int32} {c R : Nat} (hc : c < 6) (hR : R < 2 ^ 31) (k : post (nI c) (nI (c + 1), ms_put a c R 5, upd o c (vp_nar .boolean 1))) :
    ∀ d j, j + d = 5 → wX_add_25 post (nI c) (nI c) (d + 1) (nI (R / 7 ^ j)) (nI j) (ms_put a c R j) o := by
  intro d
  induction d with
  | zero =>
    intro j hj
    obtain rfl : j = 5 := by omega
    exact br_t (by decide +kernel) ⟨vp_in_nI hc (by decide), nm_r (ms_updC hc _) (nm_r (nI_1 c) k)⟩
  | succ d ih =>
    intro j hj
    exact br_f (nI_ge (b := 5) (by omega) (by decide)) ⟨ms_n7, ms_putIn hc (by omega), nm_r (ms_putStep (by omega) (by omega) hR) ⟨ms_n7, nm_r (ms_dvStep hR) (nm_r (nI_1 j) (ih (j + 1) (by omega)))⟩⟩
theorem xs_add {post : Int32 → SX → Prop} {a o : Nat → Int32} {c R : Nat} {x : Int32} (hc : c < 6) (hR : R < 2 ^ 31) (ex : x &&& 2147483647 = nI R) (k : post (nI c) (nI (c + 1), ms_put a c R 5, upd o c (vp_nar .boolean 1))) : wpX_add post (nI c, a, o) x := by
  have h := xs_adLoop (a := a) hc hR k 5 0 rfl
  rw [Nat.pow_zero, Nat.div_one] at h
  have h6 : ¬ nI c = 6 := fun z => absurd ((nI_eq (a := c) (b := 6) (by omega) (by decide)).mp z) (by omega)
  unfold wpX_add
  exact br_f h6 (nm_r ex ⟨6, h⟩)
theorem xs_addF {post : Int32 → SX → Prop} {a o : Nat → Int32} {x : Int32} (k : post (-3) (nI 6, a, o)) : wpX_add post (nI 6, a, o) x := by
  unfold wpX_add
  exact br_t (by decide +kernel) k
theorem ys_adLoop {post : Int32 → SY → Prop} {kn : Int32} {a o b ct : Nat → Int32} {c R : Nat} (hc : c < 6) (hR : R < 2 ^ 31) (k : post (nI c) (nI (c + 1), 0, ms_put a c R 5, upd o c (vp_nar .boolean 1), b, ct)) :
    ∀ d j, j + d = 5 → wY_add_20 post (nI c) kn (d + 1) (nI (R / 7 ^ j)) (nI j) (ms_put a c R j) o b ct := by
  intro d
  induction d with
  | zero =>
    intro j hj
    obtain rfl : j = 5 := by omega
    refine br_t (by decide +kernel) ⟨vp_in_nI hc (by decide), nm_r (ms_updC hc _) (nm_r (nI_1 c) ?_)⟩
    rw [nI_pred]
    exact k
  | succ d ih =>
    intro j hj
    exact br_f (nI_ge (b := 5) (by omega) (by decide)) ⟨ms_n7, ms_putIn hc (by omega), nm_r (ms_putStep (by omega) (by omega) hR) ⟨ms_n7, nm_r (ms_dvStep hR) (nm_r (nI_1 j) (ih (j + 1) (by omega)))⟩⟩
theorem ys_add {post : Int32 → SY → Prop} {kn : Int32} {a o b ct : Nat → Int32} {c R : Nat} {x : Int32} (hc : c < 6) (hR : R < 2 ^ 31) (ex : x &&& 2147483647 = nI R) (k : post (nI c) (nI (c + 1), 0, ms_put a c R 5, upd o c (vp_nar .boolean 1), b, ct)) : wpY_add post (nI c, kn, a, o, b, ct) x := by
  have h := ys_adLoop (kn := kn) (a := a) hc hR k 5 0 rfl
  rw [Nat.pow_zero, Nat.div_one] at h
  have h6 : ¬ nI c = 6 := fun z => absurd ((nI_eq (a := c) (b := 6) (by omega) (by decide)).mp z) (by omega)
  unfold wpY_add
  refine br_f h6 ?_
  unfold wpY_positive
  rw [ex]
  exact ⟨6, h⟩
theorem ys_addF {post : Int32 → SY → Prop} {kn : Int32} {a o b ct : Nat → Int32} {x : Int32} (k : post (-3) (nI 6, kn, a, o, b, ct)) : wpY_add post (nI 6, kn, a, o, b, ct) x := by
  unfold wpY_add
  exact br_t (by decide +kernel) k
/-! set -/
def ms_md (x : Int32) : Int32 := ((x - x / 7 * 7) + 7) - ((x - x / 7 * 7) + 7) / 7 * 7
theorem ms_ixC {e j : Nat} (he : e < 6) (hj : j < 5) : (nI e * 5 + nI j).toNatClampNeg = e * 5 + j := by
  rw [ms_m5, nI_add, nI_clamp (by omega)]
theorem xs_set {post : Int32 → SX → Prop} {a o : Nat → Int32} {c e j : Nat} {x : Int32} (hc : c ≤ 6) (he : e < c) (hj : j < 5) (k : post (a (e * 5 + j)) (nI c, upd a (e * 5 + j) (ms_md x), o)) : wpX_set post (nI c, a, o) (nI e) (nI j) x := by
  have hin := ms_putIn (show e < 6 by omega) hj
  have hcl := ms_ixC (show e < 6 by omega) hj
  unfold wpX_set
  refine xs_eqT hc he ?_
  refine br_f (by decide) (br_f (nI_pos (by omega)) (br_t (nI_lt (b := 5) hj (by decide)) (nm_e ⟨hin, nm_e ⟨ms_n7, ms_n7, hin, nm_e ?_⟩⟩)))
  rw [hcl]
  exact k
theorem ys_set {post : Int32 → SY → Prop} {kn : Int32} {a o b ct : Nat → Int32} {c e j : Nat} {x : Int32} (hc : c ≤ 6) (he : e < c) (hj : j < 5) (k : post (a (e * 5 + j)) (nI c, 0, upd a (e * 5 + j) (ms_md x), o, b, ct)) : wpY_set post (nI c, kn, a, o, b, ct) (nI e) (nI j) x := by
  have hin := ms_putIn (show e < 6 by omega) hj
  have hcl := ms_ixC (show e < 6 by omega) hj
  unfold wpY_set
  refine ys_bdT hc he ?_
  refine br_t rfl (br_f (nI_pos (by omega)) (br_t (nI_le (b := 4) (by omega) (by decide)) ⟨hin, nm_e ⟨ms_n7, ms_n7, hin, nm_e ?_⟩⟩))
  rw [hcl]
  exact k
theorem xs_setE {post : Int32 → SX → Prop} {a o : Nat → Int32} {c e y x : Int32} (he : e < 0 ∨ c ≤ e) (k : post (-1) (c, a, o)) : wpX_set post (c, a, o) e y x := by
  unfold wpX_set
  refine xs_eqF he ?_
  exact br_t rfl k
theorem ys_setE {post : Int32 → SY → Prop} {kn c e y x : Int32} {a o b ct : Nat → Int32} (he : e < 0 ∨ c ≤ e) (k : post (-1) (c, kn, a, o, b, ct)) : wpY_set post (c, kn, a, o, b, ct) e y x := by
  unfold wpY_set
  refine ys_bdF he ?_
  exact br_f (by decide) k
theorem ms_no5 {x : Int32} (hx : x < 0 ∨ 5 ≤ x) (h : ¬ x < 0) : ¬ x < 5 ∧ ¬ x ≤ 4 := by
  have h5 := hx.resolve_left h
  rw [Int32.le_iff_toInt_le] at h5
  have a4 : (4 : Int32).toInt = 4 := by decide
  have a5 : (5 : Int32).toInt = 5 := by decide
  constructor
  · rw [Int32.lt_iff_toInt_lt]; omega
  · rw [Int32.le_iff_toInt_le]; omega
theorem xs_setU {post : Int32 → SX → Prop} {a o : Nat → Int32} {c e : Nat} {y x : Int32} (hc : c ≤ 6) (he : e < c) (hy : y < 0 ∨ 5 ≤ y) (k : post (-2) (nI c, a, o)) : wpX_set post (nI c, a, o) (nI e) y x := by
  unfold wpX_set
  refine xs_eqT hc he ?_
  exact br_f (by decide) (br_c (fun _ => k) (fun h => br_f (ms_no5 hy h).1 k))
theorem ys_setU {post : Int32 → SY → Prop} {kn : Int32} {a o b ct : Nat → Int32} {c e : Nat} {y x : Int32} (hc : c ≤ 6) (he : e < c) (hy : y < 0 ∨ 5 ≤ y) (k : post (-2) (nI c, kn, a, o, b, ct)) : wpY_set post (nI c, kn, a, o, b, ct) (nI e) y x := by
  unfold wpY_set
  refine ys_bdT hc he ?_
  exact br_t rfl (br_c (fun _ => k) (fun h => br_f (ms_no5 hy h).2 k))
/-! turn -/
theorem xs_turn {post : Int32 → SX → Prop} {a o : Nat → Int32} {c e : Nat} {x : Int32} (hc : c ≤ 6) (he : e < c) (k : post (if o e = 0 then 0 else 1) (nI c, a, upd o e (vp_nar .boolean x))) : wpX_turn post (nI c, a, o) (nI e) x := by
  have hin : vp_in (nI e) 6 := vp_in_nI (by omega) (by decide)
  have hcl : (nI e).toNatClampNeg = e := nI_clamp (by omega)
  unfold wpX_turn
  refine xs_eqT hc he ?_
  refine br_f (by decide) ⟨hin, br_c (fun z => ⟨hin, nm_e ?_⟩) (fun z => ⟨hin, nm_e ?_⟩)⟩
  · rw [hcl] at z ⊢
    rw [if_pos z] at k
    exact k
  · rw [hcl] at z ⊢
    rw [if_neg z] at k
    exact k
theorem ys_turn {post : Int32 → SY → Prop} {kn : Int32} {a o b ct : Nat → Int32} {c e : Nat} {x : Int32} (hc : c ≤ 6) (he : e < c) (k : post (if o e = 0 then 0 else 1) (nI c, kn, a, upd o e (vp_nar .boolean x), b, ct)) : wpY_turn post (nI c, kn, a, o, b, ct) (nI e) x := by
  have hin : vp_in (nI e) 6 := vp_in_nI (by omega) (by decide)
  have hcl : (nI e).toNatClampNeg = e := nI_clamp (by omega)
  unfold wpY_turn
  refine ys_bdT hc he ?_
  refine br_t rfl ⟨hin, br_c (fun z => ⟨hin, nm_e ?_⟩) (fun z => ⟨hin, nm_e ?_⟩)⟩
  · rw [hcl] at z ⊢
    rw [if_pos z] at k
    exact k
  · rw [hcl] at z ⊢
    rw [if_neg z] at k
    exact k
theorem xs_turnE {post : Int32 → SX → Prop} {a o : Nat → Int32} {c e x : Int32} (he : e < 0 ∨ c ≤ e) (k : post (-1) (c, a, o)) : wpX_turn post (c, a, o) e x := by
  unfold wpX_turn
  refine xs_eqF he ?_
  exact br_t rfl k
theorem ys_turnE {post : Int32 → SY → Prop} {kn c e x : Int32} {a o b ct : Nat → Int32} (he : e < 0 ∨ c ≤ e) (k : post (-1) (c, kn, a, o, b, ct)) : wpY_turn post (c, kn, a, o, b, ct) e x := by
  unfold wpY_turn
  refine ys_bdF he ?_
  exact br_f (by decide) k
/-! the calls that read -/
theorem xs_solutions {post : Int32 → Prop} {a o : Nat → Int32} {c : Nat} (hc : c ≤ 6) (k : post (nI (ms_ct (ms_sol a o c) 2401))) : wpX_solutions post (nI c, a, o) := by
  unfold wpX_solutions
  exact xs_sb (t := 2401) hc (by omega) k
theorem ys_solutions {post : Int32 → SY → Prop} {kn : Int32} {a o b ct : Nat → Int32} {c : Nat} (hc : c ≤ 6) (hK : ¬ kn = 0 → ms_ok a c b)
    (k : ∀ kn' b', ms_ok a c b' → post (nI (ms_ct (ms_sol a o c) 2401)) (nI c, kn', a, o, b', ct)) : wpY_solutions post (nI c, kn, a, o, b, ct) := by
  unfold wpY_solutions
  exact ys_bf (t := 2401) hc hK (by omega) k
theorem xs_value {post : Int32 → Prop} {v : Int32} {a o : Nat → Int32} {c x : Nat} (hc : c ≤ 6) (hx : x < 4) (k : post (ms_vl (ms_sol a o c) v x 2401 0)) : wpX_value post (nI c, a, o) v (nI x) := by
  unfold wpX_value
  refine br_c (fun h => ?_) (fun _ => xs_unkT hx (br_f (by decide) ⟨2402, xs_vlLoop hc hx 2401 0 rfl k⟩))
  rw [ms_vlNeg h 2401 0 rfl] at k
  exact k
theorem ys_value {post : Int32 → SY → Prop} {v kn : Int32} {a o b ct : Nat → Int32} {c x : Nat} (hc : c ≤ 6) (hx : x < 4) (hK : ¬ kn = 0 → ms_ok a c b)
    (k : ∀ kn' b', ms_ok a c b' → post (ms_vl (ms_sol a o c) v x 2401 0) (nI c, kn', a, o, b', ct)) : wpY_value post (nI c, kn, a, o, b, ct) v (nI x) := by
  unfold wpY_value
  refine br_f (nI_pos (by omega)) (br_t (nI_le (b := 3) (by omega) (by decide)) ?_)
  refine ys_wo hc hK (fun kn' b' h => ?_)
  refine ys_on hc ?_
  exact ⟨2402, ys_vlLoop hc hx h 2401 0 rfl (k kn' b' h)⟩
theorem xs_valueF {post : Int32 → Prop} {c v x : Int32} {a o : Nat → Int32} (hx : x < 0 ∨ 4 ≤ x) (k : post (-4)) : wpX_value post (c, a, o) v x := by
  unfold wpX_value
  exact br_c (fun _ => k) (fun _ => xs_unkF hx (br_t rfl k))
theorem ys_valueF {post : Int32 → SY → Prop} {kn c v x : Int32} {a o b ct : Nat → Int32} (hx : x < 0 ∨ 4 ≤ x) (k : post (-4) (c, kn, a, o, b, ct)) : wpY_value post (c, kn, a, o, b, ct) v x := by
  unfold wpY_value
  exact br_c (fun _ => k) (fun h => br_f (ms_no3 hx h) k)
theorem xs_possible {post : Int32 → Prop} {a o : Nat → Int32} {c x : Nat} (hc : c ≤ 6) (hx : x < 4) (k : post (nI (ms_ps a o c x 2401))) : wpX_possible post (nI c, a, o) (nI x) := by
  unfold wpX_possible
  refine xs_unkT hx ?_
  exact br_f (by decide) (xs_ps hc hx k)
theorem xs_possibleF {post : Int32 → Prop} {c x : Int32} {a o : Nat → Int32} (hx : x < 0 ∨ 4 ≤ x) (k : post 0) : wpX_possible post (c, a, o) x := by
  unfold wpX_possible
  refine xs_unkF hx ?_
  exact br_t rfl k
theorem xs_fixed {post : Int32 → Prop} {a o : Nat → Int32} {c x : Nat} (hc : c ≤ 6) (hx : x < 4) (k : post (ms_fx (ms_ps a o c x 2401))) : wpX_fixed post (nI c, a, o) (nI x) := by
  have hm := ms_psLt a o c x
  have hp := ms_pcLe (ms_ps a o c x 2401) 7
  unfold wpX_fixed
  refine xs_unkT hx ?_
  refine br_f (by decide) (xs_ps hc hx ?_)
  refine xs_bit (by omega) ?_
  refine pk_eq (ms_pc (ms_ps a o c x 2401) 7) 1 (fun z => ?_) (fun z => ?_)
  · rw [show ms_fx (ms_ps a o c x 2401) = 1 from if_pos z] at k
    exact k
  · rw [show ms_fx (ms_ps a o c x 2401) = 0 from if_neg z] at k
    exact k
theorem xs_fixedF {post : Int32 → Prop} {c x : Int32} {a o : Nat → Int32} (hx : x < 0 ∨ 4 ≤ x) (k : post 0) : wpX_fixed post (c, a, o) x := by
  unfold wpX_fixed
  refine xs_unkF hx ?_
  exact br_t rfl k
theorem ys_fixed {post : Int32 → SY → Prop} {kn : Int32} {a o b ct : Nat → Int32} {c x : Nat} (hc : c ≤ 6) (hx : x < 4) (hK : ¬ kn = 0 → ms_ok a c b)
    (k : ∀ kn' b', ms_ok a c b' → post (ms_fx (ms_ps a o c x 2401)) (nI c, kn', a, o, b', ct)) : wpY_fixed post (nI c, kn, a, o, b, ct) (nI x) := by
  unfold wpY_fixed
  refine ys_psT hc hx hK (fun kn' b' h => ?_)
  exact ⟨8, ys_fxLoop (ms_psLt a o c x) (k kn' b' h) 7 0 rfl (fun w hw => absurd hw (Nat.not_lt_zero w))⟩
theorem ys_fixedF {post : Int32 → SY → Prop} {kn c x : Int32} {a o b ct : Nat → Int32} (hx : x < 0 ∨ 4 ≤ x) (k : post 0 (c, kn, a, o, b, ct)) : wpY_fixed post (c, kn, a, o, b, ct) x := by
  have e : ms_fx 0 = 0 := if_neg (by decide)
  rw [← e] at k
  unfold wpY_fixed
  refine ys_psF hx ?_
  exact ⟨8, ys_fxLoop (m := 0) (by decide) k 7 0 rfl (fun w hw => absurd hw (Nat.not_lt_zero w))⟩
theorem xs_rank {post : Int32 → Prop} {a o : Nat → Int32} {c R : Nat} {x : Int32} (hc : c ≤ 6) (hR : R < 2 ^ 31) (ex : x &&& 2147483647 = nI R) (k : post (nI (ms_ct (ms_sol a o c) (ms_to R 4)))) : wpX_rank post (nI c, a, o) x := by
  have h := xs_rkLoop hc hR k 4 0 rfl
  rw [Nat.pow_zero, Nat.div_one] at h
  unfold wpX_rank
  exact nm_r ex ⟨5, h⟩
theorem ys_rank {post : Int32 → SY → Prop} {kn : Int32} {a o b ct : Nat → Int32} {c R : Nat} {x : Int32} (hc : c ≤ 6) (hR : R < 2 ^ 31) (ex : x &&& 2147483647 = nI R) (hK : ¬ kn = 0 → ms_ok a c b)
    (k : ∀ kn' b', ms_ok a c b' → post (nI (ms_ct (ms_sol a o c) (ms_to R 4))) (nI c, kn', a, o, b', ct)) : wpY_rank post (nI c, kn, a, o, b, ct) x := by
  have h := ys_rkLoop hc hK hR k 4 0 rfl
  rw [Nat.pow_zero, Nat.div_one] at h
  unfold wpY_rank wpY_positive
  rw [ex]
  exact ⟨5, h⟩
theorem xs_follows {post : Int32 → Prop} {a o : Nat → Int32} {c e : Nat} (hc : c ≤ 6) (he : e < c) (k : post (ms_fo (ms_sol a o c) (fun i => ms_bad a e i) 2401 0)) : wpX_follows post (nI c, a, o) (nI e) := by
  unfold wpX_follows
  refine xs_eqT hc he ?_
  exact br_f (by decide) ⟨2402, xs_foLoop hc (by omega) 2401 0 rfl k⟩
theorem xs_followsE {post : Int32 → Prop} {c e : Int32} {a o : Nat → Int32} (he : e < 0 ∨ c ≤ e) (k : post 0) : wpX_follows post (c, a, o) e := by
  unfold wpX_follows
  refine xs_eqF he ?_
  exact br_t rfl k
theorem ys_follows {post : Int32 → SY → Prop} {kn : Int32} {a o b ct : Nat → Int32} {c e : Nat} (hc : c ≤ 6) (he : e < c) (hK : ¬ kn = 0 → ms_ok a c b)
    (k : ∀ kn' b', ms_ok a c b' → post (ms_fo (ms_sol a o c) (fun i => ms_bad a e i) 2401 0) (nI c, kn', a, o, b', ct)) : wpY_follows post (nI c, kn, a, o, b, ct) (nI e) := by
  unfold wpY_follows
  refine ys_bdT hc he ?_
  refine br_t rfl (ys_wo hc hK (fun kn' b' h => ?_))
  refine ys_on hc ?_
  exact ⟨2402, ys_foLoop hc he h 2401 0 rfl (k kn' b' h)⟩
theorem ys_followsE {post : Int32 → SY → Prop} {kn c e : Int32} {a o b ct : Nat → Int32} (he : e < 0 ∨ c ≤ e) (k : post 0 (c, kn, a, o, b, ct)) : wpY_follows post (c, kn, a, o, b, ct) e := by
  unfold wpY_follows
  refine ys_bdF he ?_
  exact br_f (by decide) k
theorem ms_ndEq {a o : Nat → Int32} {c : Nat} (hc : c ≤ 6) : ms_mn (ms_yo (ms_by a c) (ms_al o c)) 64 = ms_mn (ms_ko (ms_or (fun _ => true) (ms_bx a o c) 2401)) 64 := by
  rw [ms_least (ms_by a c) (ms_al o c) (ms_al64 hc o)]
  unfold ms_pt
  rw [show (fun i => ms_by a c i &&& ms_al o c) = ms_bx a o c from funext (fun i => ms_bxE a o c i)]
theorem ms_bad2 {n : Nat} {x : Int32} (hn : n < 2 ^ 31) : (x < 0 ∨ nI n ≤ x) ∨ ∃ j : Nat, j < n ∧ x = nI j := by
  rcases pk_ix x hn with h | h | h
  · exact Or.inl (Or.inl h)
  · exact Or.inl (Or.inr h)
  · exact Or.inr h
end
section
/-- the same count, the same numbers, the same switches; Y's table, where it is known, is the right one -/
def i_Rel (k : Nat) (u : SX) (v : SY) : Prop := ∃ (c : Nat) (kn : Int32) (a o b ct : Nat → Int32), c ≤ 6 ∧ u = (nI c, a, o) ∧ v = (nI c, kn, a, o, b, ct) ∧ (¬ kn = 0 → ms_ok a c b)
theorem i_up {k : Nat} {u : SX} {v : SY} (h : i_Rel k u v) : i_Rel (k + 4) u v := h
theorem i_vc0 : wpX_init (fun u => wpY_init (fun v => i_Rel 0 u v)) := ⟨0, 0, (fun _ => 0), (fun _ => 0), (fun _ => 0), (fun _ => 0), by omega, rfl, rfl, fun h => absurd rfl h⟩
theorem i_vc_add {k : Nat} {u : SX} {v : SY} (I : i_Rel k u v) (hk : k + 4 ≤ 2048) (v1 : Int32) : wpX_add (fun r u' => wpY_add (fun r' v' => r' = r ∧ i_Rel (k + 4) u' v') v v1) u v1 := by
  obtain ⟨c, kn, a, o, b, ct, hc, rfl, rfl, hK⟩ := I
  by_cases h6 : c = 6
  · subst h6
    exact xs_addF (ys_addF ⟨rfl, 6, kn, a, o, b, ct, hc, rfl, rfl, hK⟩)
  · obtain ⟨R, hR, ex⟩ := pk_andE v1 (m := 2147483647) 31 (by decide)
    exact xs_add (by omega) hR ex (ys_add (by omega) hR ex ⟨rfl, c + 1, 0, _, _, b, ct, by omega, rfl, rfl, fun h => absurd rfl h⟩)
theorem i_vc_set {k : Nat} {u : SX} {v : SY} (I : i_Rel k u v) (hk : k + 4 ≤ 2048) (v1 : Int32) (v2 : Int32) (v3 : Int32) : wpX_set (fun r u' => wpY_set (fun r' v' => r' = r ∧ i_Rel (k + 4) u' v') v v1 v2 v3) u v1 v2 v3 := by
  obtain ⟨c, kn, a, o, b, ct, hc, rfl, rfl, hK⟩ := I
  rcases ms_bad2 (n := c) (x := v1) (by omega) with h | ⟨e, he, rfl⟩
  · exact xs_setE h (ys_setE h ⟨rfl, c, kn, a, o, b, ct, hc, rfl, rfl, hK⟩)
  · rcases ms_bad2 (n := 5) (x := v2) (by decide) with h | ⟨j, hj, rfl⟩
    · exact xs_setU hc he h (ys_setU hc he h ⟨rfl, c, kn, a, o, b, ct, hc, rfl, rfl, hK⟩)
    · exact xs_set hc he hj (ys_set hc he hj ⟨rfl, c, 0, _, o, b, ct, hc, rfl, rfl, fun h => absurd rfl h⟩)
theorem i_vc_turn {k : Nat} {u : SX} {v : SY} (I : i_Rel k u v) (hk : k + 4 ≤ 2048) (v1 : Int32) (v2 : Int32) : wpX_turn (fun r u' => wpY_turn (fun r' v' => r' = r ∧ i_Rel (k + 4) u' v') v v1 (lw_bz v2)) u v1 (lw_bz v2) := by
  obtain ⟨c, kn, a, o, b, ct, hc, rfl, rfl, hK⟩ := I
  rcases ms_bad2 (n := c) (x := v1) (by omega) with h | ⟨e, he, rfl⟩
  · exact xs_turnE h (ys_turnE h ⟨rfl, c, kn, a, o, b, ct, hc, rfl, rfl, hK⟩)
  · exact xs_turn hc he (ys_turn hc he ⟨rfl, c, kn, a, _, b, ct, hc, rfl, rfl, hK⟩)
theorem i_vc_drop {k : Nat} {u : SX} {v : SY} (I : i_Rel k u v) (hk : k + 4 ≤ 2048) : wpX_drop (fun r u' => wpY_drop (fun r' v' => r' = r ∧ i_Rel (k + 4) u' v') v) u := by
  obtain ⟨c, kn, a, o, b, ct, hc, rfl, rfl, hK⟩ := I
  unfold wpX_drop wpY_drop
  cases c with
  | zero => exact br_t nI_0 (br_t nI_0 ⟨rfl, 0, kn, a, o, b, ct, hc, rfl, rfl, hK⟩)
  | succ c =>
    have h : ¬ nI (c + 1) = 0 := nI_ne0 (by omega) (by omega)
    exact br_f h (nm_r (nI_pred c) (br_f h (nm_r (nI_pred c) ⟨rfl, c, 0, a, o, b, ct, by omega, rfl, rfl, fun h => absurd rfl h⟩)))
theorem i_vc_solutions {k : Nat} {u : SX} {v : SY} (I : i_Rel k u v) (hk : k + 4 ≤ 2048) : wpX_solutions (fun r => wpY_solutions (fun r' v' => r' = r ∧ i_Rel (k + 4) u v') v) u := by
  obtain ⟨c, kn, a, o, b, ct, hc, rfl, rfl, hK⟩ := I
  exact xs_solutions hc (ys_solutions hc hK (fun kn' b' h => ⟨rfl, c, kn', a, o, b', ct, hc, rfl, rfl, fun _ => h⟩))
theorem i_vc_value {k : Nat} {u : SX} {v : SY} (I : i_Rel k u v) (hk : k + 4 ≤ 2048) (v1 : Int32) (v2 : Int32) : wpX_value (fun r => wpY_value (fun r' v' => r' = r ∧ i_Rel (k + 4) u v') v v1 v2) u v1 v2 := by
  obtain ⟨c, kn, a, o, b, ct, hc, rfl, rfl, hK⟩ := I
  rcases ms_bad2 (n := 4) (x := v2) (by decide) with h | ⟨x, hx, rfl⟩
  · exact xs_valueF h (ys_valueF h ⟨rfl, c, kn, a, o, b, ct, hc, rfl, rfl, hK⟩)
  · exact xs_value hc hx (ys_value hc hx hK (fun kn' b' h => ⟨rfl, c, kn', a, o, b', ct, hc, rfl, rfl, fun _ => h⟩))
theorem i_vc_possible {k : Nat} {u : SX} {v : SY} (I : i_Rel k u v) (hk : k + 4 ≤ 2048) (v1 : Int32) : wpX_possible (fun r => wpY_possible (fun r' v' => r' = r ∧ i_Rel (k + 4) u v') v v1) u v1 := by
  obtain ⟨c, kn, a, o, b, ct, hc, rfl, rfl, hK⟩ := I
  rcases ms_bad2 (n := 4) (x := v1) (by decide) with h | ⟨x, hx, rfl⟩
  · exact xs_possibleF h (ys_psF h ⟨rfl, c, kn, a, o, b, ct, hc, rfl, rfl, hK⟩)
  · exact xs_possible hc hx (ys_psT hc hx hK (fun kn' b' h => ⟨rfl, c, kn', a, o, b', ct, hc, rfl, rfl, fun _ => h⟩))
theorem i_vc_fixed {k : Nat} {u : SX} {v : SY} (I : i_Rel k u v) (hk : k + 4 ≤ 2048) (v1 : Int32) : wpX_fixed (fun r => wpY_fixed (fun r' v' => r' = r ∧ i_Rel (k + 4) u v') v v1) u v1 := by
  obtain ⟨c, kn, a, o, b, ct, hc, rfl, rfl, hK⟩ := I
  rcases ms_bad2 (n := 4) (x := v1) (by decide) with h | ⟨x, hx, rfl⟩
  · exact xs_fixedF h (ys_fixedF h ⟨rfl, c, kn, a, o, b, ct, hc, rfl, rfl, hK⟩)
  · exact xs_fixed hc hx (ys_fixed hc hx hK (fun kn' b' h => ⟨rfl, c, kn', a, o, b', ct, hc, rfl, rfl, fun _ => h⟩))
theorem i_vc_rank {k : Nat} {u : SX} {v : SY} (I : i_Rel k u v) (hk : k + 4 ≤ 2048) (v1 : Int32) : wpX_rank (fun r => wpY_rank (fun r' v' => r' = r ∧ i_Rel (k + 4) u v') v v1) u v1 := by
  obtain ⟨c, kn, a, o, b, ct, hc, rfl, rfl, hK⟩ := I
  obtain ⟨R, hR, ex⟩ := pk_andE v1 (m := 2147483647) 31 (by decide)
  exact xs_rank hc hR ex (ys_rank hc hR ex hK (fun kn' b' h => ⟨rfl, c, kn', a, o, b', ct, hc, rfl, rfl, fun _ => h⟩))
theorem i_vc_follows {k : Nat} {u : SX} {v : SY} (I : i_Rel k u v) (hk : k + 4 ≤ 2048) (v1 : Int32) : wpX_follows (fun r => wpY_follows (fun r' v' => r' = r ∧ i_Rel (k + 4) u v') v v1) u v1 := by
  obtain ⟨c, kn, a, o, b, ct, hc, rfl, rfl, hK⟩ := I
  rcases ms_bad2 (n := c) (x := v1) (by omega) with h | ⟨e, he, rfl⟩
  · exact xs_followsE h (ys_followsE h ⟨rfl, c, kn, a, o, b, ct, hc, rfl, rfl, hK⟩)
  · exact xs_follows hc he (ys_follows hc he hK (fun kn' b' h => ⟨rfl, c, kn', a, o, b', ct, hc, rfl, rfl, fun _ => h⟩))
theorem i_vc_needed {k : Nat} {u : SX} {v : SY} (I : i_Rel k u v) (hk : k + 4 ≤ 2048) : wpX_needed (fun r => wpY_needed (fun r' v' => r' = r ∧ i_Rel (k + 4) u v') v) u := by
  obtain ⟨c, kn, a, o, b, ct, hc, rfl, rfl, hK⟩ := I
  exact xs_nd hc (ys_nd hc hK (fun kn' b' ct' h => ⟨congrArg nI (ms_ndEq hc), c, kn', a, o, b', ct', hc, rfl, rfl, fun _ => h⟩))
end
