/-! sets of few as numbers; ties; ways: by levels, and by walks -/
def msk (p : Nat → Bool) : Nat → Nat
  | 0 => 0
  | n + 1 => msk p n ||| (if p n then 2 ^ n else 0)
theorem msk_bit (p : Nat → Bool) : ∀ (n j : Nat), (msk p n).testBit j = (decide (j < n) && p j)
  | 0, j => by simp [msk]
  | n + 1, j => by
    have ih := msk_bit p n j
    rw [msk, Nat.testBit_or, ih]
    cases hp : p n with
    | true =>
      simp only [if_true, Nat.testBit_two_pow]
      by_cases e : n = j
      · subst e; simp [hp]
      · by_cases h : j < n
        · simp [h, e, Nat.lt_succ_of_lt h]
        · have h2 : ¬ j < n + 1 := by omega
          simp [h, h2, e]
    | false =>
      simp only [Bool.false_eq_true, if_false, Nat.zero_testBit, Bool.or_false]
      by_cases e : n = j
      · subst e; simp [hp]
      · by_cases h : j < n
        · simp [h, Nat.lt_succ_of_lt h]
        · have h2 : ¬ j < n + 1 := by omega
          simp [h, h2]
theorem msk_lt (p : Nat → Bool) (n : Nat) : msk p n < 2 ^ n := by
  apply Nat.lt_pow_two_of_testBit
  intro i hi
  rw [msk_bit]
  simp [Nat.not_lt.mpr hi]
theorem bit_ext {a b : Nat} (h : ∀ j, a.testBit j = b.testBit j) : a = b := Nat.eq_of_testBit_eq h
theorem msk_of {a n : Nat} {p : Nat → Bool} (h : ∀ j, a.testBit j = (decide (j < n) && p j)) : a = msk p n := bit_ext (fun j => (h j).trans (msk_bit p n j).symm)
theorem bit_hi {a n j : Nat} (h : a < 2 ^ n) (hj : n ≤ j) : a.testBit j = false := Nat.testBit_lt_two_pow (Nat.lt_of_lt_of_le h (Nat.pow_le_pow_right (by decide) hj))
theorem msk_0 {p : Nat → Bool} {n : Nat} : msk p n = 0 ↔ ∀ j, j < n → p j = false := by
  constructor
  · intro h j hj
    have := msk_bit p n j
    rw [h, Nat.zero_testBit] at this
    simpa [hj] using this.symm
  · intro h
    apply bit_ext
    intro j
    rw [msk_bit, Nat.zero_testBit]
    by_cases hj : j < n
    · simp [h j hj]
    · simp [hj]
/-- one and not the other -/
def bdf (a b : Nat) : Nat := a ^^^ (a &&& b)
theorem bdf_bit (a b j : Nat) : (bdf a b).testBit j = (a.testBit j && !b.testBit j) := by
  rw [bdf, Nat.testBit_xor, Nat.testBit_and]
  cases a.testBit j <;> cases b.testBit j <;> rfl
theorem bdf_lt {a b n : Nat} (h : a < 2 ^ n) : bdf a b < 2 ^ n := by
  apply Nat.lt_pow_two_of_testBit
  intro i hi
  rw [bdf_bit, bit_hi h hi]; rfl
theorem bdfI (a b : Nat) : nI a &&& (nI b ^^^ (-1)) = nI (bdf a b) := by
  rw [bdf, ← fb_xorI, ← fa_and]
  apply Int32.toBitVec_inj.1
  show BitVec.ofNat 32 a &&& (BitVec.ofNat 32 b ^^^ BitVec.allOnes 32) = BitVec.ofNat 32 a ^^^ (BitVec.ofNat 32 a &&& BitVec.ofNat 32 b)
  apply BitVec.eq_of_getLsbD_eq
  intro i hi
  simp only [BitVec.getLsbD_and, BitVec.getLsbD_xor, BitVec.getLsbD_allOnes, hi, decide_true]
  cases (BitVec.ofNat 32 a).getLsbD i <;> cases (BitVec.ofNat 32 b).getLsbD i <;> rfl
theorem bdfJ (a b : Nat) : lN a &&& (lN b ^^^ (-1)) = lN (bdf a b) := by
  rw [bdf, ← fb_xorL, ← fb_andL]
  apply Int64.toBitVec_inj.1
  show BitVec.ofNat 64 a &&& (BitVec.ofNat 64 b ^^^ BitVec.allOnes 64) = BitVec.ofNat 64 a ^^^ (BitVec.ofNat 64 a &&& BitVec.ofNat 64 b)
  apply BitVec.eq_of_getLsbD_eq
  intro i hi
  simp only [BitVec.getLsbD_and, BitVec.getLsbD_xor, BitVec.getLsbD_allOnes, hi, decide_true]
  cases (BitVec.ofNat 64 a).getLsbD i <;> cases (BitVec.ofNat 64 b).getLsbD i <;> rfl
/-- who is tied with whom -/
theorem prN_c (a b : Nat) : prN a b = prN b a := by
  unfold prN
  by_cases h : a < b
  · rw [if_pos h, if_neg (by omega)]
  · by_cases h2 : b < a
    · rw [if_neg h, if_pos h2]
    · have : a = b := by omega
      subst this; rfl
def td (net a b : Nat) : Bool := decide (a ≠ b) && net.testBit (prN a b)
theorem td_c (net a b : Nat) : td net a b = td net b a := by
  unfold td
  rw [prN_c a b]
  congr 1
  by_cases h : a = b
  · subst h; rfl
  · simp [h, Ne.symm h]
theorem td_n (net a : Nat) : td net a a = false := by simp [td]
def dg (n net a : Nat) : Nat := fb_ct (fun q => td net a q) n
/-- within k ties of a -/
def rs (n net a : Nat) : Nat → Nat → Bool
  | 0, b => decide (b = a)
  | k + 1, b => rs n net a k b || (List.range n).any (fun c => rs n net a k c && td net c b)
theorem rs_s {n net a k b : Nat} : rs n net a (k + 1) b = true ↔ rs n net a k b = true ∨ ∃ c, c < n ∧ rs n net a k c = true ∧ td net c b = true := by
  rw [rs, Bool.or_eq_true, List.any_eq_true]
  constructor
  · rintro (h | ⟨c, h1, h2⟩)
    · exact Or.inl h
    · rw [Bool.and_eq_true] at h2
      exact Or.inr ⟨c, List.mem_range.mp h1, h2.1, h2.2⟩
  · rintro (h | ⟨c, h1, h2, h3⟩)
    · exact Or.inl h
    · exact Or.inr ⟨c, List.mem_range.mpr h1, by rw [Bool.and_eq_true]; exact ⟨h2, h3⟩⟩
theorem rs_up {n net a k b : Nat} (h : rs n net a k b = true) : ∀ j, rs n net a (k + j) b = true
  | 0 => h
  | j + 1 => rs_s.mpr (Or.inl (rs_up h j))
theorem rs_le {n net a k j b : Nat} (hkj : k ≤ j) (h : rs n net a k b = true) : rs n net a j b = true := by
  have := rs_up h (j - k)
  rwa [show k + (j - k) = j by omega] at this
/-- where a level adds nobody, none behind it does -/
theorem rs_fix {n net a k : Nat} (h : ∀ b, b < n → rs n net a (k + 1) b = rs n net a k b) : ∀ j b, b < n → rs n net a (k + j) b = rs n net a k b
  | 0, b, _ => rfl
  | j + 1, b, hb => by
    have ih := rs_fix h j
    apply Bool.eq_iff_iff.mpr
    constructor
    · intro h1
      have h1 : rs n net a (k + j + 1) b = true := h1
      rcases rs_s.mp h1 with h2 | ⟨c, h2, h3, h4⟩
      · rw [ih b hb] at h2; exact h2
      · rw [ih c h2] at h3
        rw [← h b hb]
        exact rs_s.mpr (Or.inr ⟨c, h2, h3, h4⟩)
    · intro h1
      exact rs_le (by omega) h1
theorem ct_grow {p q : Nat → Bool} : ∀ {n : Nat}, (∀ j, j < n → p j = true → q j = true) → (∃ j, j < n ∧ q j = true ∧ p j = false) → fb_ct p n < fb_ct q n
  | 0, _, ⟨j, h, _⟩ => absurd h (Nat.not_lt_zero _)
  | n + 1, h, ⟨j, hj, h2, h3⟩ => by
    rw [fb_ct_succ, fb_ct_succ]
    have hle := fb_ct_sub (p := p) (q := q) (n := n) (fun k hk => h k (by omega))
    by_cases e : j = n
    · subst e
      rw [h2, h3]
      simp
      omega
    · have ih := ct_grow (p := p) (q := q) (n := n) (fun k hk => h k (by omega)) ⟨j, by omega, h2, h3⟩
      have : (if p n then 1 else 0) ≤ (if q n then 1 else 0) := by
        cases hp : p n with
        | false => simp
        | true => simp [h n (by omega) hp]
      omega
/-- a level k either is full of k + 1, or nobody is added behind some level ahead of it -/
theorem rs_count {n net a : Nat} (ha : a < n) : ∀ k, (k + 1 ≤ fb_ct (fun b => rs n net a k b) n) ∨ ∃ i, i < k ∧ ∀ b, b < n → rs n net a (i + 1) b = rs n net a i b
  | 0 => Or.inl (fb_ct_pos.mpr ⟨a, ha, by simp [rs]⟩)
  | k + 1 => by
    rcases rs_count (net := net) ha k with h | ⟨i, h1, h2⟩
    · by_cases e : ∃ b, b < n ∧ rs n net a (k + 1) b = true ∧ rs n net a k b = false
      · have := ct_grow (p := fun b => rs n net a k b) (q := fun b => rs n net a (k + 1) b) (n := n) (fun j _ h3 => rs_s.mpr (Or.inl h3)) e
        exact Or.inl (by omega)
      · refine Or.inr ⟨k, by omega, fun b hb => ?_⟩
        cases h3 : rs n net a k b with
        | true => exact rs_s.mpr (Or.inl h3)
        | false =>
          cases h4 : rs n net a (k + 1) b with
          | false => rfl
          | true => exact absurd ⟨b, hb, h4, h3⟩ e
    · exact Or.inr ⟨i, by omega, h2⟩
/-- nobody is added behind level n - 1 -/
theorem rs_end {n net a k b : Nat} (ha : a < n) (hb : b < n) (h : rs n net a k b = true) : rs n net a (n - 1) b = true := by
  rcases Nat.lt_or_ge k n with g | g
  · exact rs_le (by omega) h
  · have hc := rs_count (net := net) ha n
    have hle := fb_ct_le (fun b => rs n net a n b) n
    rcases hc with hc | ⟨i, h1, h2⟩
    · omega
    · have h3 := rs_fix h2 (k - i) b hb
      rw [show i + (k - i) = k by omega, h] at h3
      exact rs_le (by omega) h3.symm
/-- how many ties lie between, or n where no way leads -/
def ds (n net a b : Nat) : Nat := fa_first (fun k => rs n net a k b) n
def dv (n net a b : Nat) : Int32 := if ds n net a b < n then nI (ds n net a b) else -1
