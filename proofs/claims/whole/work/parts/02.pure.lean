/-! pure pictures: masks of equations, counts of points, unions of bits, the least size -/
def ms_mk (P : Nat → Bool) : Nat → Nat
  | 0 => 0
  | n + 1 => if P n = true then ms_mk P n ||| 2 ^ n else ms_mk P n
theorem ms_mkT {P : Nat → Bool} {n : Nat} (h : P n = true) : ms_mk P (n + 1) = ms_mk P n ||| 2 ^ n := if_pos h
theorem ms_mkF {P : Nat → Bool} {n : Nat} (h : ¬ P n = true) : ms_mk P (n + 1) = ms_mk P n := if_neg h
theorem ms_tb (P : Nat → Bool) (n j : Nat) : (ms_mk P n).testBit j = (decide (j < n) && P j) := by
  induction n with
  | zero => simp [ms_mk]
  | succ n ih =>
    by_cases e : n = j
    · subst e
      by_cases h : P n = true
      · rw [ms_mkT h, Nat.testBit_or, ih, Nat.testBit_two_pow, h]; simp
      · rw [ms_mkF h, ih]; simp [h]
    · have hd : decide (j < n + 1) = decide (j < n) := decide_eq_decide.mpr (by omega)
      by_cases h : P n = true
      · rw [ms_mkT h, Nat.testBit_or, ih, Nat.testBit_two_pow, hd]; simp [e]
      · rw [ms_mkF h, ih, hd]
theorem ms_mkLt (P : Nat → Bool) (n : Nat) : ms_mk P n < 2 ^ n := by
  induction n with
  | zero => exact Nat.one_pos
  | succ n ih =>
    have h1 : 2 ^ n < 2 ^ (n + 1) := Nat.pow_lt_pow_right (by decide) (by omega)
    by_cases h : P n = true
    · rw [ms_mkT h]; exact Nat.or_lt_two_pow (Nat.lt_trans ih h1) h1
    · rw [ms_mkF h]; exact Nat.lt_trans ih h1
theorem ms_mk64 (P : Nat → Bool) {n : Nat} (h : n ≤ 6) : ms_mk P n < 64 :=
  Nat.lt_of_lt_of_le (ms_mkLt P n) (Nat.pow_le_pow_right (n := 2) (by decide) h)
theorem ms_mkAnd (P Q : Nat → Bool) (n : Nat) : ms_mk P n &&& ms_mk Q n = ms_mk (fun q => Q q && P q) n := by
  apply Nat.eq_of_testBit_eq
  intro j
  rw [Nat.testBit_and, ms_tb, ms_tb, ms_tb]
  generalize decide (j < n) = d
  cases d <;> cases P j <;> cases Q j <;> rfl
/-! counts -/
def ms_ct (p : Nat → Bool) : Nat → Nat
  | 0 => 0
  | n + 1 => ms_ct p n + (if p n = true then 1 else 0)
theorem ms_ctT {p : Nat → Bool} {n : Nat} (h : p n = true) : ms_ct p (n + 1) = ms_ct p n + 1 := by
  show ms_ct p n + (if p n = true then 1 else 0) = _
  rw [if_pos h]
theorem ms_ctF {p : Nat → Bool} {n : Nat} (h : ¬ p n = true) : ms_ct p (n + 1) = ms_ct p n := by
  show ms_ct p n + (if p n = true then 1 else 0) = _
  rw [if_neg h]; rfl
theorem ms_ctLe (p : Nat → Bool) (n : Nat) : ms_ct p n ≤ n := by
  induction n with
  | zero => exact Nat.le_refl 0
  | succ n ih =>
    by_cases h : p n = true
    · rw [ms_ctT h]; omega
    · rw [ms_ctF h]; omega
theorem ms_ctEq {p q : Nat → Bool} (hpq : ∀ i, p i = true → q i = true) (n : Nat) :
    ms_ct p n ≤ ms_ct q n ∧ (ms_ct q n = ms_ct p n ↔ ∀ i, i < n → q i = true → p i = true) := by
  induction n with
  | zero => exact ⟨Nat.le_refl 0, fun _ i hi => absurd hi (Nat.not_lt_zero i), fun _ => rfl⟩
  | succ n ih =>
    obtain ⟨h1, h2⟩ := ih
    by_cases hq : q n = true
    · by_cases hp : p n = true
      · rw [ms_ctT hq, ms_ctT hp]
        refine ⟨by omega, fun e i hi => ?_, fun e => ?_⟩
        · by_cases z : i = n
          · subst z; exact fun _ => hp
          · exact h2.mp (by omega) i (by omega)
        · have := h2.mpr (fun i hi => e i (by omega)); omega
      · rw [ms_ctT hq, ms_ctF hp]
        refine ⟨by omega, fun e => ?_, fun e => ?_⟩
        · exact absurd e (by omega)
        · exact absurd (e n (by omega) hq) hp
    · have hp : ¬ p n = true := fun z => hq (hpq n z)
      rw [ms_ctF hq, ms_ctF hp]
      refine ⟨h1, fun e i hi => ?_, fun e => ?_⟩
      · by_cases z : i = n
        · subst z; exact fun y => absurd y hq
        · exact h2.mp e i (by omega)
      · exact h2.mpr (fun i hi => e i (by omega))
/-! unions of bits -/
def ms_or (p : Nat → Bool) (f : Nat → Nat) : Nat → Nat
  | 0 => 0
  | n + 1 => if p n = true then ms_or p f n ||| 2 ^ (f n) else ms_or p f n
theorem ms_orT {p : Nat → Bool} {f : Nat → Nat} {n : Nat} (h : p n = true) : ms_or p f (n + 1) = ms_or p f n ||| 2 ^ (f n) := if_pos h
theorem ms_orF {p : Nat → Bool} {f : Nat → Nat} {n : Nat} (h : ¬ p n = true) : ms_or p f (n + 1) = ms_or p f n := if_neg h
theorem ms_orLt (p : Nat → Bool) (f : Nat → Nat) (b n : Nat) (hf : ∀ i, i < n → f i < b) : ms_or p f n < 2 ^ b := by
  induction n with
  | zero => exact Nat.two_pow_pos b
  | succ n ih =>
    have hi := ih (fun i hi => hf i (by omega))
    by_cases h : p n = true
    · rw [ms_orT h]; exact Nat.or_lt_two_pow hi (Nat.pow_lt_pow_right (by decide) (hf n (by omega)))
    · rw [ms_orF h]; exact hi
theorem ms_orTb (f : Nat → Nat) (n j : Nat) : (ms_or (fun _ => true) f n).testBit j = true ↔ ∃ i, i < n ∧ f i = j := by
  induction n with
  | zero =>
    constructor
    · intro h; rw [show ms_or (fun _ => true) f 0 = 0 from rfl, Nat.zero_testBit] at h; exact absurd h (by decide)
    · rintro ⟨i, hi, _⟩; exact absurd hi (Nat.not_lt_zero i)
  | succ n ih =>
    rw [ms_orT (p := fun _ => true) rfl, Nat.testBit_or, Bool.or_eq_true, ih, Nat.testBit_two_pow, decide_eq_true_eq]
    constructor
    · rintro (⟨i, hi, e⟩ | e)
      · exact ⟨i, by omega, e⟩
      · exact ⟨n, by omega, e⟩
    · rintro ⟨i, hi, e⟩
      by_cases z : i = n
      · subst z; exact Or.inr e
      · exact Or.inl ⟨i, by omega, e⟩
/-! sums over masks -/
def ms_sm (p : Nat → Bool) (f : Nat → Nat) : Nat → Nat
  | 0 => 0
  | n + 1 => if p n = true then ms_sm p f n + f n else ms_sm p f n
theorem ms_smT {p : Nat → Bool} {f : Nat → Nat} {n : Nat} (h : p n = true) : ms_sm p f (n + 1) = ms_sm p f n + f n := if_pos h
theorem ms_smF {p : Nat → Bool} {f : Nat → Nat} {n : Nat} (h : ¬ p n = true) : ms_sm p f (n + 1) = ms_sm p f n := if_neg h
theorem ms_smAdd (p : Nat → Bool) (f g : Nat → Nat) (b n : Nat) (hg : ∀ m, g m = f m + (if b = m then 1 else 0)) :
    ms_sm p g n = ms_sm p f n + (if b < n ∧ p b = true then 1 else 0) := by
  induction n with
  | zero => rw [if_neg (by omega)]; rfl
  | succ n ih =>
    by_cases h : p n = true
    · rw [ms_smT h, ms_smT h, ih, hg n]
      by_cases e : b = n
      · subst e
        rw [if_pos rfl, if_neg (by omega), if_pos ⟨by omega, h⟩]; omega
      · rw [if_neg e]
        by_cases z : b < n ∧ p b = true
        · rw [if_pos z, if_pos ⟨by omega, z.2⟩]; omega
        · rw [if_neg z, if_neg (fun y => z ⟨by omega, y.2⟩)]; omega
    · rw [ms_smF h, ms_smF h, ih]
      by_cases z : b < n ∧ p b = true
      · rw [if_pos z, if_pos ⟨by omega, z.2⟩]
      · rw [if_neg z, if_neg]
        rintro ⟨y1, y2⟩
        by_cases e : b = n
        · subst e; exact h y2
        · exact z ⟨by omega, y2⟩
theorem ms_sm0 (p : Nat → Bool) (n : Nat) : ms_sm p (fun _ => 0) n = 0 := by
  induction n with
  | zero => rfl
  | succ n ih =>
    by_cases h : p n = true
    · rw [ms_smT h, ih]
    · rw [ms_smF h, ih]
/-- how many of the first N points have the mask m -/
def ms_cn (B : Nat → Nat) (N m : Nat) : Nat := ms_ct (fun i => decide (B i = m)) N
theorem ms_cnS (B : Nat → Nat) (N m : Nat) : ms_cn B (N + 1) m = ms_cn B N m + (if B N = m then 1 else 0) := by
  show ms_ct _ N + (if decide (B N = m) = true then 1 else 0) = _
  by_cases h : B N = m
  · rw [if_pos (decide_eq_true h), if_pos h]; rfl
  · rw [if_neg (fun z => h (of_decide_eq_true z)), if_neg h]; rfl
theorem ms_cnLe (B : Nat → Nat) (N m : Nat) : ms_cn B N m ≤ N := ms_ctLe _ N
theorem ms_smCn (p : Nat → Bool) (B : Nat → Nat) (M N : Nat) (hB : ∀ i, i < N → B i < M) :
    ms_sm p (ms_cn B N) M = ms_ct (fun i => p (B i)) N := by
  induction N with
  | zero => exact ms_sm0 p M
  | succ N ih =>
    rw [ms_smAdd p (ms_cn B N) (ms_cn B (N + 1)) (B N) M (fun m => ms_cnS B N m), ih (fun i hi => hB i (by omega))]
    show _ = ms_ct (fun i => p (B i)) N + (if p (B N) = true then 1 else 0)
    by_cases h : p (B N) = true
    · rw [if_pos ⟨hB N (by omega), h⟩, if_pos h]
    · rw [if_neg (fun z => h z.2), if_neg h]
theorem ms_smLe (p : Nat → Bool) (B : Nat → Nat) (M N : Nat) (hB : ∀ i, i < N → B i < M) : ms_sm p (ms_cn B N) M ≤ N := by
  rw [ms_smCn p B M N hB]; exact ms_ctLe _ N
/-! the number of bits; the least -/
def ms_pc (m : Nat) : Nat → Nat
  | 0 => 0
  | b + 1 => ms_pc m b + m / 2 ^ b % 2
theorem ms_pcLe (m b : Nat) : ms_pc m b ≤ b := by
  induction b with
  | zero => exact Nat.le_refl 0
  | succ b ih =>
    show ms_pc m b + m / 2 ^ b % 2 ≤ b + 1
    have := Nat.mod_lt (m / 2 ^ b) (show 0 < 2 by decide)
    omega
theorem ms_pc67 : ∀ m, m < 64 → ms_pc m 7 = ms_pc m 6 := by decide +kernel
theorem ms_pcAnd : ∀ A, A < 64 → ∀ m, m < 64 → ms_pc (m &&& A) 6 ≤ ms_pc m 6 := by decide +kernel
theorem ms_pc1 : ∀ v, v < 7 → ms_pc (2 ^ v) 7 = 1 := by decide +kernel
theorem ms_pcN : ∀ m, m < 128 → (∀ v, v < 7 → ¬ m = 2 ^ v) → ¬ ms_pc m 7 = 1 := by decide +kernel
def ms_mn (f : Nat → Bool) : Nat → Nat
  | 0 => 6
  | n + 1 => if ms_pc n 6 < ms_mn f n ∧ f n = true then ms_pc n 6 else ms_mn f n
theorem ms_mnT {f : Nat → Bool} {n : Nat} (h : ms_pc n 6 < ms_mn f n) (h2 : f n = true) : ms_mn f (n + 1) = ms_pc n 6 := if_pos ⟨h, h2⟩
theorem ms_mnF {f : Nat → Bool} {n : Nat} (h : ¬ (ms_pc n 6 < ms_mn f n ∧ f n = true)) : ms_mn f (n + 1) = ms_mn f n := if_neg h
theorem ms_mn6 (f : Nat → Bool) (n : Nat) : ms_mn f n ≤ 6 := by
  induction n with
  | zero => exact Nat.le_refl 6
  | succ n ih =>
    by_cases h : ms_pc n 6 < ms_mn f n ∧ f n = true
    · rw [ms_mnT h.1 h.2]; exact ms_pcLe n 6
    · rw [ms_mnF h]; exact ih
theorem ms_mnLb (f : Nat → Bool) (n k : Nat) (hk : k < n) (hf : f k = true) : ms_mn f n ≤ ms_pc k 6 := by
  induction n with
  | zero => exact absurd hk (Nat.not_lt_zero k)
  | succ n ih =>
    by_cases h : ms_pc n 6 < ms_mn f n ∧ f n = true
    · rw [ms_mnT h.1 h.2]
      by_cases e : k = n
      · subst e; exact Nat.le_refl _
      · have := ih (by omega); omega
    · rw [ms_mnF h]
      by_cases e : k = n
      · subst e
        by_cases z : ms_pc k 6 < ms_mn f k
        · exact absurd ⟨z, hf⟩ h
        · omega
      · exact ih (by omega)
theorem ms_mnAt (f : Nat → Bool) (n : Nat) : ms_mn f n = 6 ∨ ∃ k, k < n ∧ f k = true ∧ ms_mn f n = ms_pc k 6 := by
  induction n with
  | zero => exact Or.inl rfl
  | succ n ih =>
    by_cases h : ms_pc n 6 < ms_mn f n ∧ f n = true
    · exact Or.inr ⟨n, by omega, h.2, ms_mnT h.1 h.2⟩
    · rw [ms_mnF h]
      rcases ih with e | ⟨k, hk, h1, h2⟩
      · exact Or.inl e
      · exact Or.inr ⟨k, by omega, h1, h2⟩
theorem ms_mnLe (f g : Nat → Bool) (n : Nat) (h : ∀ k, k < n → f k = true → ∃ j, j < n ∧ g j = true ∧ ms_pc j 6 ≤ ms_pc k 6) : ms_mn g n ≤ ms_mn f n := by
  rcases ms_mnAt f n with e | ⟨k, hk, h1, h2⟩
  · rw [e]; exact ms_mn6 g n
  · obtain ⟨j, hj, g1, g2⟩ := h k hk h1
    have := ms_mnLb g n j hj g1
    omega
/-! X's test of a choice against Y's -/
/-- X: each mask that was seen and isn't empty meets s -/
def ms_kr (pat s : Nat) : Nat → Bool
  | 0 => true
  | m + 1 => ms_kr pat s m && !(decide (1 ≤ m) && pat.testBit m && decide (m &&& s = 0))
def ms_ko (pat s : Nat) : Bool := ms_kr pat s 64
theorem ms_krI (pat s n : Nat) : ms_kr pat s n = true ↔ ∀ m, m < n → 1 ≤ m → pat.testBit m = true → ¬ m &&& s = 0 := by
  induction n with
  | zero => exact ⟨fun _ m hm => absurd hm (Nat.not_lt_zero m), fun _ => rfl⟩
  | succ n ih =>
    rw [show ms_kr pat s (n + 1) = (ms_kr pat s n && !(decide (1 ≤ n) && pat.testBit n && decide (n &&& s = 0))) from rfl, Bool.and_eq_true, ih]
    constructor
    · rintro ⟨h, h2⟩ m hm h1 ht hz
      by_cases e : m = n
      · subst e
        rw [decide_eq_true h1, ht, decide_eq_true hz] at h2
        exact absurd h2 (by decide)
      · exact h m (by omega) h1 ht hz
    · intro h
      refine ⟨fun m hm => h m (by omega), ?_⟩
      by_cases h1 : 1 ≤ n
      · by_cases ht : pat.testBit n = true
        · rw [decide_eq_false (h n (by omega) h1 ht), Bool.and_false]; rfl
        · simp [ht]
      · rw [decide_eq_false h1, Bool.false_and, Bool.false_and]; rfl
theorem ms_koI (pat s : Nat) : ms_ko pat s = true ↔ ∀ m, m < 64 → 1 ≤ m → pat.testBit m = true → ¬ m &&& s = 0 := ms_krI pat s 64
/-- Y: s lies within A, and as many points meet nothing of s as nothing of A -/
def ms_yo (B : Nat → Nat) (A s : Nat) : Bool := decide (s &&& A = s) && decide (ms_ct (fun i => decide (B i &&& s = 0)) 2401 = ms_ct (fun i => decide (B i &&& A = 0)) 2401)
def ms_pt (B : Nat → Nat) (A : Nat) : Nat := ms_or (fun _ => true) (fun i => B i &&& A) 2401
theorem ms_koIff (B : Nat → Nat) (A s : Nat) (hA : A < 64) : ms_ko (ms_pt B A) s = true ↔ ∀ i, i < 2401 → ¬ B i &&& A = 0 → ¬ (B i &&& A) &&& s = 0 := by
  rw [ms_koI]
  constructor
  · intro h i hi hn
    have hl : B i &&& A < 64 := Nat.and_lt_two_pow (n := 6) (B i) hA
    exact h (B i &&& A) hl (by omega) ((ms_orTb (fun i => B i &&& A) 2401 (B i &&& A)).mpr ⟨i, hi, rfl⟩)
  · intro h m hm h1 ht
    obtain ⟨i, hi, e⟩ := (ms_orTb (fun i => B i &&& A) 2401 m).mp ht
    have e2 : B i &&& A = m := e
    have := h i hi (by omega)
    rw [e2] at this
    exact this
theorem ms_andSub {b A s : Nat} (h : s &&& A = s) : (b &&& A) &&& s = b &&& s := by
  rw [Nat.and_assoc, Nat.and_comm A s, h]
theorem ms_koAnd (B : Nat → Nat) (A s : Nat) (hA : A < 64) : ms_ko (ms_pt B A) (s &&& A) = true ↔ ms_ko (ms_pt B A) s = true := by
  rw [ms_koIff B A _ hA, ms_koIff B A _ hA]
  have e : ∀ b : Nat, (b &&& A) &&& (s &&& A) = (b &&& A) &&& s := by
    intro b
    rw [Nat.and_comm s A, ← Nat.and_assoc, Nat.and_assoc b A A, Nat.and_self]
  constructor
  · intro h i hi hn; have := h i hi hn; rw [e] at this; exact this
  · intro h i hi hn; rw [e]; exact h i hi hn
theorem ms_yoIff (B : Nat → Nat) (A s : Nat) (hA : A < 64) (hs : s &&& A = s) : ms_yo B A s = true ↔ ms_ko (ms_pt B A) s = true := by
  rw [ms_koIff B A s hA]
  unfold ms_yo
  rw [Bool.and_eq_true, decide_eq_true_eq, decide_eq_true_eq]
  have hpq : ∀ i, (fun i => decide (B i &&& A = 0)) i = true → (fun i => decide (B i &&& s = 0)) i = true := by
    intro i h
    have h0 : B i &&& A = 0 := of_decide_eq_true h
    apply decide_eq_true
    rw [← ms_andSub (b := B i) hs, h0, Nat.zero_and]
  have key := (ms_ctEq hpq 2401).2
  constructor
  · rintro ⟨_, h⟩ i hi hn hz
    rw [ms_andSub hs] at hz
    exact hn (of_decide_eq_true (key.mp h i hi (decide_eq_true hz)))
  · intro h
    refine ⟨hs, key.mpr (fun i hi hq => ?_)⟩
    have hz : B i &&& s = 0 := of_decide_eq_true hq
    apply decide_eq_true
    by_cases hn : B i &&& A = 0
    · exact hn
    · exact absurd ((ms_andSub hs).trans hz) (h i hi hn)
theorem ms_least (B : Nat → Nat) (A : Nat) (hA : A < 64) : ms_mn (ms_yo B A) 64 = ms_mn (ms_ko (ms_pt B A)) 64 := by
  apply Nat.le_antisymm
  · apply ms_mnLe
    intro k hk h
    have hl : k &&& A < 64 := Nat.and_lt_two_pow (n := 6) k hA
    have hs : (k &&& A) &&& A = k &&& A := by rw [Nat.and_assoc, Nat.and_self]
    exact ⟨k &&& A, hl, (ms_yoIff B A (k &&& A) hA hs).mpr ((ms_koAnd B A k hA).mpr h), ms_pcAnd A hA k hk⟩
  · apply ms_mnLe
    intro k hk h
    have hs : k &&& A = k := by
      unfold ms_yo at h
      rw [Bool.and_eq_true, decide_eq_true_eq] at h
      exact h.1
    exact ⟨k, hk, (ms_yoIff B A k hA hs).mp h, Nat.le_refl _⟩
/-! digits -/
def ms_to (R : Nat) : Nat → Nat
  | 0 => 0
  | j + 1 => ms_to R j * 7 + R / 7 ^ j % 7
theorem ms_toLt (R j : Nat) : ms_to R j < 7 ^ j := by
  induction j with
  | zero => exact Nat.one_pos
  | succ j ih =>
    show ms_to R j * 7 + R / 7 ^ j % 7 < 7 ^ (j + 1)
    have := Nat.mod_lt (R / 7 ^ j) (show 0 < 7 by decide)
    rw [Nat.pow_succ]
    omega
theorem ms_dv (R j : Nat) : R / 7 ^ j / 7 = R / 7 ^ (j + 1) := by rw [Nat.div_div_eq_div_mul, Nat.pow_succ]
theorem ms_dvLt {R : Nat} (h : R < 2 ^ 31) (j : Nat) : R / 7 ^ j < 2 ^ 31 := Nat.lt_of_le_of_lt (Nat.div_le_self _ _) h
/-- the numbers with the first j digits of R at equation c -/
def ms_put (a : Nat → Int32) (c R : Nat) : Nat → (Nat → Int32)
  | 0 => a
  | j + 1 => upd (ms_put a c R j) (c * 5 + j) (nI (R / 7 ^ j % 7))
/-! equations at points -/
def ms_sum (a : Nat → Int32) (e i : Nat) : Int32 :=
  a (e * 5) * nI (i / 343) + a (e * 5 + 1) * nI (i / 49 % 7) + a (e * 5 + 2) * nI (i / 7 % 7) + a (e * 5 + 3) * nI (i % 7)
def ms_bad (a : Nat → Int32) (e i : Nat) : Bool := decide (¬ ms_sum a e i - ms_sum a e i / 7 * 7 = a (e * 5 + 4))
def ms_on (o : Nat → Int32) (q : Nat) : Bool := decide (¬ o q = 0)
def ms_by (a : Nat → Int32) (c i : Nat) : Nat := ms_mk (fun q => ms_bad a q i) c
def ms_al (o : Nat → Int32) (c : Nat) : Nat := ms_mk (ms_on o) c
def ms_bx (a o : Nat → Int32) (c i : Nat) : Nat := ms_mk (fun q => ms_on o q && ms_bad a q i) c
theorem ms_bxE (a o : Nat → Int32) (c i : Nat) : ms_by a c i &&& ms_al o c = ms_bx a o c i := ms_mkAnd (fun q => ms_bad a q i) (ms_on o) c
def ms_sol (a o : Nat → Int32) (c i : Nat) : Bool := decide (ms_bx a o c i = 0)
/-- the digit of unknown x in point i -/
def ms_dg (i x : Nat) : Nat := if x = 0 then i / 343 else if x = 1 then i / 49 % 7 else if x = 2 then i / 7 % 7 else i % 7
theorem ms_dgLt {i : Nat} (h : i < 2401) (x : Nat) : ms_dg i x < 7 := by
  unfold ms_dg
  split
  · omega
  · split
    · omega
    · split <;> omega
/-! numbers -/
theorem ms_or32 (a b : Nat) : nI a ||| nI b = nI (a ||| b) := by
  apply Int32.toBitVec_inj.1
  show BitVec.ofNat 32 a ||| BitVec.ofNat 32 b = BitVec.ofNat 32 (a ||| b)
  apply BitVec.eq_of_getLsbD_eq
  intro i hi
  simp [hi]
theorem ms_one : ∀ q, q < 31 → (1 : Int32) <<< (nI q &&& 31) = nI (2 ^ q) := by decide +kernel
theorem ms_put1 (m : Nat) {q : Nat} (h : q < 31) : nI m ||| ((1 : Int32) <<< (nI q &&& 31)) = nI (m ||| 2 ^ q) := by rw [ms_one q h, ms_or32]
theorem ms_a1 {m : Nat} (h : m < 2 ^ 32) : nI m &&& 1 = nI (m % 2) := pk_andN (m := 1) h 1 (by decide)
theorem ms_sbit {m q : Nat} (hm : m < 2 ^ 31) (hq : q < 32) : (nI m >>> (nI q &&& 31)) &&& 1 = nI (m / 2 ^ q % 2) := by
  have := Nat.div_le_self m (2 ^ q)
  rw [pk_shrN hm _ q (s_l q hq), ms_a1 (by omega)]
theorem ms_ubit {m q : Nat} (hm : m < 2 ^ 31) (hq : q < 32) : ((nI m).toUInt32 >>> ((nI q).toUInt32 &&& Int32.toUInt32 31)).toInt32 &&& 1 = nI (m / 2 ^ q % 2) := by
  have := Nat.div_le_self m (2 ^ q)
  rw [pk_ushrN (by omega) _ q (s_u q hq), ms_a1 (by omega)]
theorem ms_d7 {n : Nat} (h : n < 2 ^ 31) : nI n / 7 = nI (n / 7) := pk_div (d := 7) h (by decide) (by decide)
theorem ms_r7 {n : Nat} (h : n < 2 ^ 31) : nI n - nI n / 7 * 7 = nI (n % 7) := pk_rem (d := 7) h (by decide) (by decide)
theorem ms_d49 {n : Nat} (h : n < 2 ^ 31) : nI n / 49 = nI (n / 49) := pk_div (d := 49) h (by decide) (by decide)
theorem ms_d343 {n : Nat} (h : n < 2 ^ 31) : nI n / 343 = nI (n / 343) := pk_div (d := 343) h (by decide) (by decide)
theorem ms_sub64 : ∀ A, A < 64 → ∀ s, s < 64 → ((nI s &&& (nI A ^^^ (-1)) = 0) ↔ s &&& A = s) := by decide +kernel
/-! what value and follows answer, from point i on with d points left -/
def ms_vl (p : Nat → Bool) (n : Int32) (x : Nat) : Nat → Nat → Int32
  | 0, _ => -4
  | d + 1, i => if p i = true then (if nI (ms_ct p i) = n then nI (ms_dg i x) else ms_vl p n x d (i + 1)) else ms_vl p n x d (i + 1)
theorem ms_vlHit {p : Nat → Bool} {n : Int32} {x d i : Nat} (h : p i = true) (e : nI (ms_ct p i) = n) : ms_vl p n x (d + 1) i = nI (ms_dg i x) := by
  rw [ms_vl, if_pos h, if_pos e]
theorem ms_vlMiss {p : Nat → Bool} {n : Int32} {x d i : Nat} (h : p i = true) (e : ¬ nI (ms_ct p i) = n) : ms_vl p n x (d + 1) i = ms_vl p n x d (i + 1) := by
  rw [ms_vl, if_pos h, if_neg e]
theorem ms_vlNo {p : Nat → Bool} {n : Int32} {x d i : Nat} (h : ¬ p i = true) : ms_vl p n x (d + 1) i = ms_vl p n x d (i + 1) := by
  rw [ms_vl, if_neg h]
theorem ms_vlNeg {p : Nat → Bool} {n : Int32} {x : Nat} (hn : n < 0) : ∀ d i, i + d = 2401 → ms_vl p n x d i = -4 := by
  intro d
  induction d with
  | zero => exact fun _ _ => rfl
  | succ d ih =>
    intro i hi
    by_cases h : p i = true
    · rw [ms_vlMiss h]
      · exact ih (i + 1) (by omega)
      · intro e
        have hl := ms_ctLe p i
        rw [← e] at hn
        exact nI_pos (by omega) hn
    · rw [ms_vlNo h]; exact ih (i + 1) (by omega)
def ms_fo (p q : Nat → Bool) : Nat → Nat → Int32
  | 0, _ => 1
  | d + 1, i => if p i = true ∧ q i = true then 0 else ms_fo p q d (i + 1)
theorem ms_foHit {p q : Nat → Bool} {d i : Nat} (h : p i = true) (e : q i = true) : ms_fo p q (d + 1) i = 0 := by
  rw [ms_fo, if_pos ⟨h, e⟩]
theorem ms_foNo {p q : Nat → Bool} {d i : Nat} (h : ¬ (p i = true ∧ q i = true)) : ms_fo p q (d + 1) i = ms_fo p q d (i + 1) := by
  rw [ms_fo, if_neg h]
