/-! how many bits: the JDK's two sums, by bytes -/
def pcn (n : Nat) : Nat → Nat := fb_ct (fun j => n.testBit j)
def bw (f : Nat → Nat) : Nat → Nat → Nat
  | 0, _ => 0
  | k + 1, n => f (n % 256) + 256 * bw f k (n / 256)
def rep8 (c : Nat) : Nat → Nat
  | 0 => 0
  | k + 1 => c + 256 * rep8 c k
theorem and_split (x y : Nat) : x &&& y = (x % 256 &&& y % 256) + 256 * (x / 256 &&& y / 256) := by
  have h1 : (x &&& y) % 2 ^ 8 = x % 2 ^ 8 &&& y % 2 ^ 8 := Nat.and_mod_two_pow
  have h2 : (x &&& y) / 2 ^ 8 = x / 2 ^ 8 &&& y / 2 ^ 8 := Nat.and_div_two_pow
  have h3 := Nat.div_add_mod (x &&& y) 256
  have e : (2 : Nat) ^ 8 = 256 := rfl
  rw [e] at h1 h2
  omega
theorem rep8_mod (c k : Nat) (hc : c < 256) : rep8 c (k + 1) % 256 = c ∧ rep8 c (k + 1) / 256 = rep8 c k := by
  show (c + 256 * rep8 c k) % 256 = c ∧ (c + 256 * rep8 c k) / 256 = rep8 c k
  omega
def sw1 (b : Nat) : Nat := b - (b / 2 &&& 85)
def sw2 (b : Nat) : Nat := (b &&& 51) + (b / 4 &&& 51)
def sw3 (b : Nat) : Nat := (b + b / 16) &&& 15
theorem sw1_in : ∀ b, b < 256 → ∀ c, c < 2 → ((b / 2 + 128 * c) &&& 85) = (b / 2 &&& 85) := by decide +kernel
theorem sw1_le : ∀ b, b < 256 → (b / 2 &&& 85) ≤ b := by decide +kernel
theorem sw2_in : ∀ b, b < 256 → ∀ c, c < 4 → ((b / 4 + 64 * c) &&& 51) = (b / 4 &&& 51) := by decide +kernel
theorem sw3_in : ∀ b, b < 256 → ∀ c, c < 5 → b + b / 16 + 16 * c < 256 → ((b + b / 16 + 16 * c) &&& 15) = ((b + b / 16) &&& 15) := by decide +kernel
theorem sw12 : ∀ b, b < 256 → sw1 b < 256 ∧ sw2 (sw1 b) < 256 ∧ sw2 (sw1 b) % 16 ≤ 4 ∧ sw2 (sw1 b) / 16 ≤ 4 ∧ sw3 (sw2 (sw1 b)) = fb_ct (fun j => b.testBit j) 8 := by decide +kernel
theorem bw_lt {f : Nat → Nat} (hf : ∀ b, b < 256 → f b < 256) : ∀ k n, bw f k n < 256 ^ k
  | 0, n => by show 0 < 1; decide
  | k + 1, n => by
    have h1 := bw_lt hf k (n / 256)
    have h2 := hf (n % 256) (Nat.mod_lt _ (by decide))
    show f (n % 256) + 256 * bw f k (n / 256) < 256 ^ (k + 1)
    rw [Nat.pow_succ]
    omega
theorem bw_mod {f : Nat → Nat} (hf : ∀ b, b < 256 → f b < 256) (k n : Nat) : bw f (k + 1) n % 256 = f (n % 256) ∧ bw f (k + 1) n / 256 = bw f k (n / 256) := by
  have h2 := hf (n % 256) (Nat.mod_lt _ (by decide))
  show (f (n % 256) + 256 * bw f k (n / 256)) % 256 = _ ∧ (f (n % 256) + 256 * bw f k (n / 256)) / 256 = _
  omega
theorem bw_1 : ∀ k n, n < 256 ^ k → (n / 2 &&& rep8 85 k) ≤ n ∧ n - (n / 2 &&& rep8 85 k) = bw sw1 k n
  | 0, n, h => by
    have : n = 0 := by simpa using h
    subst this
    exact ⟨by decide, rfl⟩
  | k + 1, n, h => by
    have hd : n / 256 < 256 ^ k := by rw [Nat.pow_succ] at h; exact Nat.div_lt_of_lt_mul (by omega)
    obtain ⟨i1, i2⟩ := bw_1 k (n / 256) hd
    obtain ⟨r1, r2⟩ := rep8_mod 85 k (by decide)
    have hb : n % 256 < 256 := Nat.mod_lt _ (by decide)
    have e1 : n / 2 % 256 = n % 256 / 2 + 128 * (n / 256 % 2) := by omega
    have e2 : n / 2 / 256 = n / 256 / 2 := by omega
    have e3 : (n / 2 &&& rep8 85 (k + 1)) = (n % 256 / 2 &&& 85) + 256 * (n / 256 / 2 &&& rep8 85 k) := by
      rw [and_split (n / 2), r1, r2, e1, e2, sw1_in _ hb _ (Nat.mod_lt _ (by decide))]
    have h4 := sw1_le _ hb
    have h5 : bw sw1 (k + 1) n = sw1 (n % 256) + 256 * bw sw1 k (n / 256) := rfl
    have h6 : sw1 (n % 256) = n % 256 - (n % 256 / 2 &&& 85) := rfl
    rw [e3, h5, h6, ← i2]
    omega
theorem bw_2 : ∀ k n, n < 256 ^ k → (n &&& rep8 51 k) + (n / 4 &&& rep8 51 k) = bw sw2 k n
  | 0, n, h => by
    have : n = 0 := by simpa using h
    subst this
    rfl
  | k + 1, n, h => by
    have hd : n / 256 < 256 ^ k := by rw [Nat.pow_succ] at h; exact Nat.div_lt_of_lt_mul (by omega)
    have i2 := bw_2 k (n / 256) hd
    obtain ⟨r1, r2⟩ := rep8_mod 51 k (by decide)
    have hb : n % 256 < 256 := Nat.mod_lt _ (by decide)
    have e1 : n / 4 % 256 = n % 256 / 4 + 64 * (n / 256 % 4) := by omega
    have e2 : n / 4 / 256 = n / 256 / 4 := by omega
    have h5 : bw sw2 (k + 1) n = ((n % 256 &&& 51) + (n % 256 / 4 &&& 51)) + 256 * bw sw2 k (n / 256) := rfl
    rw [and_split n, and_split (n / 4), r1, r2, e1, e2, sw2_in _ hb _ (Nat.mod_lt _ (by decide)), h5, ← i2]
    omega
def nib4 : Nat → Nat → Prop
  | 0, _ => True
  | k + 1, n => n % 16 ≤ 4 ∧ n % 256 / 16 ≤ 4 ∧ nib4 k (n / 256)
theorem nib4_lo {k n : Nat} (h : nib4 k n) (hn : n < 256 ^ k) : n % 16 ≤ 4 := by
  cases k with
  | zero =>
    have : n = 0 := by simpa using hn
    subst this; decide
  | succ k => exact h.1
theorem bw_3 : ∀ k n, n < 256 ^ k → nib4 k n → ((n + n / 16) &&& rep8 15 k) = bw sw3 k n
  | 0, n, h, _ => by
    have : n = 0 := by simpa using h
    subst this
    rfl
  | k + 1, n, h, hn => by
    have hd : n / 256 < 256 ^ k := by rw [Nat.pow_succ] at h; exact Nat.div_lt_of_lt_mul (by omega)
    obtain ⟨n1, n2, n3⟩ := hn
    have i2 := bw_3 k (n / 256) hd n3
    have n4 := nib4_lo n3 hd
    obtain ⟨r1, r2⟩ := rep8_mod 15 k (by decide)
    have hb : n % 256 < 256 := Nat.mod_lt _ (by decide)
    have e0 : n % 256 + n % 256 / 16 + 16 * (n / 256 % 16) < 256 := by omega
    have e1 : (n + n / 16) % 256 = n % 256 + n % 256 / 16 + 16 * (n / 256 % 16) := by omega
    have e2 : (n + n / 16) / 256 = n / 256 + n / 256 / 16 := by omega
    have h5 : bw sw3 (k + 1) n = ((n % 256 + n % 256 / 16) &&& 15) + 256 * bw sw3 k (n / 256) := rfl
    rw [and_split (n + n / 16), r1, r2, e1, e2, sw3_in _ hb _ (by omega) e0, h5, ← i2]
theorem bw_bw {f g : Nat → Nat} (hf : ∀ b, b < 256 → f b < 256) : ∀ k n, bw g k (bw f k n) = bw (fun b => g (f b)) k n
  | 0, _ => rfl
  | k + 1, n => by
    obtain ⟨h1, h2⟩ := bw_mod hf k n
    show g (bw f (k + 1) n % 256) + 256 * bw g k (bw f (k + 1) n / 256) = g (f (n % 256)) + 256 * bw (fun b => g (f b)) k (n / 256)
    rw [h1, h2, bw_bw hf k (n / 256)]
theorem bw_cong {f g : Nat → Nat} (h : ∀ b, b < 256 → f b = g b) : ∀ k n, bw f k n = bw g k n
  | 0, _ => rfl
  | k + 1, n => by
    show f (n % 256) + 256 * bw f k (n / 256) = g (n % 256) + 256 * bw g k (n / 256)
    rw [h _ (Nat.mod_lt _ (by decide)), bw_cong h k (n / 256)]
theorem bw_nib {f : Nat → Nat} (hf : ∀ b, b < 256 → f b < 256 ∧ f b % 16 ≤ 4 ∧ f b / 16 ≤ 4) : ∀ k n, nib4 k (bw f k n)
  | 0, _ => trivial
  | k + 1, n => by
    obtain ⟨h1, h2⟩ := bw_mod (fun b hb => (hf b hb).1) k n
    obtain ⟨g1, g2, g3⟩ := hf (n % 256) (Nat.mod_lt _ (by decide))
    refine ⟨?_, ?_, ?_⟩
    · have : bw f (k + 1) n % 16 = f (n % 256) % 16 := by omega
      rw [this]; exact g2
    · rw [h1]; exact g3
    · rw [h2]; exact bw_nib hf k (n / 256)
def swA (n : Nat) : Nat := n - (n / 2 &&& 6148914691236517205)
def swB (n : Nat) : Nat := (n &&& 3689348814741910323) + (n / 4 &&& 3689348814741910323)
def swC (n : Nat) : Nat := (n + n / 16) &&& 1085102592571150095
theorem swABC {n : Nat} (h : n < 2 ^ 64) : (n / 2 &&& 6148914691236517205) ≤ n ∧ swC (swB (swA n)) = bw (fun b => fb_ct (fun j => b.testBit j) 8) 8 n ∧ swA n < 2 ^ 64 ∧ swB (swA n) < 2 ^ 63 := by
  have e5 : rep8 85 8 = 6148914691236517205 := rfl
  have e3 : rep8 51 8 = 3689348814741910323 := rfl
  have e0 : rep8 15 8 = 1085102592571150095 := rfl
  have h8 : n < 256 ^ 8 := h
  obtain ⟨a1, a2⟩ := bw_1 8 n h8
  rw [e5] at a1 a2
  have hA : swA n = bw sw1 8 n := a2
  have hl1 : bw sw1 8 n < 256 ^ 8 := bw_lt (fun b hb => (sw12 b hb).1) 8 n
  have hB : swB (swA n) = bw (fun b => sw2 (sw1 b)) 8 n := by
    rw [hA]
    have := bw_2 8 (bw sw1 8 n) hl1
    rw [e3] at this
    exact this.trans (bw_bw (fun b hb => (sw12 b hb).1) 8 n)
  have hl2 : bw (fun b => sw2 (sw1 b)) 8 n < 256 ^ 8 := bw_lt (fun b hb => (sw12 b hb).2.1) 8 n
  have hn2 : nib4 8 (bw (fun b => sw2 (sw1 b)) 8 n) := bw_nib (fun b hb => ⟨(sw12 b hb).2.1, (sw12 b hb).2.2.1, (sw12 b hb).2.2.2.1⟩) 8 n
  have hC : swC (swB (swA n)) = bw (fun b => sw3 (sw2 (sw1 b))) 8 n := by
    rw [hB]
    have := bw_3 8 _ hl2 hn2
    rw [e0] at this
    exact this.trans (bw_bw (f := fun b => sw2 (sw1 b)) (g := sw3) (fun b hb => (sw12 b hb).2.1) 8 n)
  refine ⟨a1, hC.trans (bw_cong (fun b hb => (sw12 b hb).2.2.2.2) 8 n), by rw [hA]; exact hl1, ?_⟩
  rw [hB]
  have h7 : ∀ b, b < 256 → sw2 (sw1 b) < 128 := fun b hb => by have := sw12 b hb; omega
  have hq : bw (fun b => sw2 (sw1 b)) 7 n % 1 = 0 := Nat.mod_one _
  clear hq
  have : ∀ k m, bw (fun b => sw2 (sw1 b)) (k + 1) m < 128 * 256 ^ k := by
    intro k
    induction k with
    | zero => intro m; have := h7 (m % 256) (Nat.mod_lt _ (by decide)); show sw2 (sw1 (m % 256)) + 256 * 0 < 128 * 1; omega
    | succ k ih =>
      intro m
      have h1 := ih (m / 256)
      have h2 := (sw12 (m % 256) (Nat.mod_lt _ (by decide))).2.1
      show sw2 (sw1 (m % 256)) + 256 * bw (fun b => sw2 (sw1 b)) (k + 1) (m / 256) < 128 * 256 ^ (k + 1)
      rw [Nat.pow_succ]
      omega
  exact this 7 n
def sumb (f : Nat → Nat) : Nat → Nat → Nat
  | 0, _ => 0
  | k + 1, n => f (n % 256) + sumb f k (n / 256)
theorem tb_lo (n j : Nat) (h : j < 8) : (n % 256).testBit j = n.testBit j := by
  have : (n % 2 ^ 8).testBit j = (decide (j < 8) && n.testBit j) := Nat.testBit_mod_two_pow n 8 j
  rw [show (2 : Nat) ^ 8 = 256 from rfl] at this
  rw [this]; simp [h]
theorem tb_hi (n j : Nat) : (n / 256).testBit j = n.testBit (8 + j) := by
  have : (n / 2 ^ 8).testBit j = n.testBit (j + 8) := Nat.testBit_div_two_pow n j
  rw [Nat.add_comm]
  exact this
theorem sumb_ct : ∀ k n, sumb (fun b => fb_ct (fun j => b.testBit j) 8) k n = fb_ct (fun j => n.testBit j) (8 * k)
  | 0, _ => rfl
  | k + 1, n => by
    show fb_ct (fun j => (n % 256).testBit j) 8 + sumb _ k (n / 256) = fb_ct (fun j => n.testBit j) (8 * (k + 1))
    rw [show 8 * (k + 1) = 8 + 8 * k by omega, fb_ct_split, sumb_ct k (n / 256)]
    congr 1
    · exact fb_ct_cong (fun j hj => tb_lo n j hj)
    · exact fb_ct_cong (fun j hj => tb_hi n j)
def nest : List Nat → Nat
  | [] => 0
  | d :: t => d + 256 * nest t
theorem nest_lt : ∀ t : List Nat, (∀ d, d ∈ t → d < 256) → nest t < 256 ^ t.length
  | [], _ => by show 0 < 1; decide
  | d :: t, h => by
    have h1 := nest_lt t (fun e he => h e (List.mem_cons_of_mem _ he))
    have h2 := h d List.mem_cons_self
    show d + 256 * nest t < 256 ^ (t.length + 1)
    rw [Nat.pow_succ]
    omega
theorem nest_div {d : Nat} {t : List Nat} (h : d < 256) : nest (d :: t) / 256 = nest t := by
  show (d + 256 * nest t) / 256 = nest t
  omega
theorem nest_div2 {a b : Nat} {t : List Nat} (ha : a < 256) (hb : b < 256) : nest (a :: b :: t) / 65536 = nest t := by
  rw [show 65536 = 256 * 256 from rfl, ← Nat.div_div_eq_div_mul, nest_div ha, nest_div hb]
theorem nest_div4 {a b c d : Nat} {t : List Nat} (ha : a < 256) (hb : b < 256) (hc : c < 256) (hd : d < 256) : nest (a :: b :: c :: d :: t) / 4294967296 = nest t := by
  rw [show 4294967296 = 65536 * 65536 from rfl, ← Nat.div_div_eq_div_mul, nest_div2 ha hb, nest_div2 hc hd]
theorem nest_1 (d0 d1 d2 d3 d4 d5 d6 d7 : Nat) : nest [d0, d1, d2, d3, d4, d5, d6, d7] + nest [d1, d2, d3, d4, d5, d6, d7] = nest [d0 + d1, d1 + d2, d2 + d3, d3 + d4, d4 + d5, d5 + d6, d6 + d7, d7] := by
  simp only [nest]; omega
theorem nest_2 (d0 d1 d2 d3 d4 d5 d6 d7 : Nat) : nest [d0, d1, d2, d3, d4, d5, d6, d7] + nest [d2, d3, d4, d5, d6, d7] = nest [d0 + d2, d1 + d3, d2 + d4, d3 + d5, d4 + d6, d5 + d7, d6, d7] := by
  simp only [nest]; omega
theorem nest_4 (d0 d1 d2 d3 d4 d5 d6 d7 : Nat) : nest [d0, d1, d2, d3, d4, d5, d6, d7] + nest [d4, d5, d6, d7] = nest [d0 + d4, d1 + d5, d2 + d6, d3 + d7, d4, d5, d6, d7] := by
  simp only [nest]; omega
theorem nest_8 {d0 d1 d2 d3 d4 d5 d6 d7 : Nat} (h0 : d0 < 256) (h1 : d1 < 256) (h2 : d2 < 256) (h3 : d3 < 256) (h4 : d4 < 256) (h5 : d5 < 256) (h6 : d6 < 256) (h7 : d7 < 256) : nest [d0, d1, d2, d3, d4, d5, d6, d7] < 2 ^ 64 := by
  have h := nest_lt [d0, d1, d2, d3, d4, d5, d6, d7] (fun d hd => by
    simp only [List.mem_cons, List.not_mem_nil, or_false] at hd
    omega)
  rw [show ([d0, d1, d2, d3, d4, d5, d6, d7] : List Nat).length = 8 from rfl, show 256 ^ 8 = 2 ^ 64 by decide] at h
  exact h
theorem bw8 (f : Nat → Nat) (hf : ∀ b, b < 256 → f b ≤ 8) (n : Nat) : ∀ x, x = bw f 8 n → ∀ y, y = x + x / 256 → ∀ z, z = y + y / 65536 → ∀ w, w = z + z / 4294967296 → w % 128 = sumb f 8 n ∧ x < 2 ^ 64 ∧ y < 2 ^ 64 ∧ z < 2 ^ 64 := by
  intro x hx y hy z hz w hw
  have m : ∀ q : Nat, q % 256 < 256 := fun q => Nat.mod_lt _ (by decide)
  have c0 := hf _ (m (n))
  have c1 := hf _ (m (n / 256))
  have c2 := hf _ (m (n / 256 / 256))
  have c3 := hf _ (m (n / 256 / 256 / 256))
  have c4 := hf _ (m (n / 256 / 256 / 256 / 256))
  have c5 := hf _ (m (n / 256 / 256 / 256 / 256 / 256))
  have c6 := hf _ (m (n / 256 / 256 / 256 / 256 / 256 / 256))
  have c7 := hf _ (m (n / 256 / 256 / 256 / 256 / 256 / 256 / 256))
  have ex : x = nest [f (n % 256), f (n / 256 % 256), f (n / 256 / 256 % 256), f (n / 256 / 256 / 256 % 256), f (n / 256 / 256 / 256 / 256 % 256), f (n / 256 / 256 / 256 / 256 / 256 % 256), f (n / 256 / 256 / 256 / 256 / 256 / 256 % 256), f (n / 256 / 256 / 256 / 256 / 256 / 256 / 256 % 256)] := hx
  have es : sumb f 8 n = f (n % 256) + f (n / 256 % 256) + f (n / 256 / 256 % 256) + f (n / 256 / 256 / 256 % 256) + f (n / 256 / 256 / 256 / 256 % 256) + f (n / 256 / 256 / 256 / 256 / 256 % 256) + f (n / 256 / 256 / 256 / 256 / 256 / 256 % 256) + f (n / 256 / 256 / 256 / 256 / 256 / 256 / 256 % 256) := by simp only [sumb]; omega
  generalize f (n / 256 / 256 / 256 / 256 / 256 / 256 / 256 % 256) = d7 at *
  generalize f (n / 256 / 256 / 256 / 256 / 256 / 256 % 256) = d6 at *
  generalize f (n / 256 / 256 / 256 / 256 / 256 % 256) = d5 at *
  generalize f (n / 256 / 256 / 256 / 256 % 256) = d4 at *
  generalize f (n / 256 / 256 / 256 % 256) = d3 at *
  generalize f (n / 256 / 256 % 256) = d2 at *
  generalize f (n / 256 % 256) = d1 at *
  generalize f (n % 256) = d0 at *
  clear hx m hf
  have ey : y = nest [d0 + d1, d1 + d2, d2 + d3, d3 + d4, d4 + d5, d5 + d6, d6 + d7, d7] := by rw [hy, ex, nest_div (by omega), nest_1]
  have ez : z = nest [(d0 + d1) + (d2 + d3), (d1 + d2) + (d3 + d4), (d2 + d3) + (d4 + d5), (d3 + d4) + (d5 + d6), (d4 + d5) + (d6 + d7), (d5 + d6) + (d7), d6 + d7, d7] := by rw [hz, ey, nest_div2 (by omega) (by omega), nest_2]
  have ew : w = nest [((d0 + d1) + (d2 + d3)) + ((d4 + d5) + (d6 + d7)), ((d1 + d2) + (d3 + d4)) + ((d5 + d6) + (d7)), ((d2 + d3) + (d4 + d5)) + (d6 + d7), ((d3 + d4) + (d5 + d6)) + (d7), (d4 + d5) + (d6 + d7), (d5 + d6) + (d7), d6 + d7, d7] := by rw [hw, ez, nest_div4 (by omega) (by omega) (by omega) (by omega), nest_4]
  clear hy hz hw
  refine ⟨?_, ?_, ?_, ?_⟩
  · rw [ew, es]
    show (((d0 + d1) + (d2 + d3)) + ((d4 + d5) + (d6 + d7)) + 256 * nest [((d1 + d2) + (d3 + d4)) + ((d5 + d6) + (d7)), ((d2 + d3) + (d4 + d5)) + (d6 + d7), ((d3 + d4) + (d5 + d6)) + (d7), (d4 + d5) + (d6 + d7), (d5 + d6) + (d7), d6 + d7, d7]) % 128 = _
    generalize nest [((d1 + d2) + (d3 + d4)) + ((d5 + d6) + (d7)), ((d2 + d3) + (d4 + d5)) + (d6 + d7), ((d3 + d4) + (d5 + d6)) + (d7), (d4 + d5) + (d6 + d7), (d5 + d6) + (d7), d6 + d7, d7] = r
    clear ex ey ez ew es
    omega
  · rw [ex]; clear ex ey ez ew es; exact nest_8 (by omega) (by omega) (by omega) (by omega) (by omega) (by omega) (by omega) (by omega)
  · rw [ey]; clear ex ey ez ew es; exact nest_8 (by omega) (by omega) (by omega) (by omega) (by omega) (by omega) (by omega) (by omega)
  · rw [ez]; clear ex ey ez ew es; exact nest_8 (by omega) (by omega) (by omega) (by omega) (by omega) (by omega) (by omega) (by omega)
theorem ct8_le : ∀ b, b < 256 → fb_ct (fun j => b.testBit j) 8 ≤ 8 := fun b _ => fb_ct_le _ 8
/-- Long.bitCount of a number that is no negative long -/
theorem pcL {N n : Nat} {σ : zSt} {Q : Int32 → zSt → Prop} (hn : n < 2 ^ 63) (h : Q (nI (fb_ct (fun j => n.testBit j) 64)) σ) : w_J13_bitCount_95d88 N (lN n) σ Q := by
  obtain ⟨a1, a2, a3, a4⟩ := swABC (n := n) (by omega)
  obtain ⟨b1, b3, b4, b5⟩ := bw8 _ ct8_le n _ rfl _ rfl _ rfl _ rfl
  rw [← a2] at b1 b3 b4 b5
  intro v1 e1 v2 e2 v3 e3 v4 e4 v5 e5 v6 e6
  have s1 : v1 = lN (swA n) := by
    rw [e1]
    have := wb_shr (n := n) (k := 1) (by omega) (by decide)
    rw [show (1 : Int32) = nI 1 from rfl, this, show (6148914691236517205 : Int64) = lN 6148914691236517205 from rfl, fb_andL, lN_sub (by simpa using a1)]
    rfl
  have s2 : v2 = lN (swB (swA n)) := by
    rw [e2, s1]
    have := wb_shr (n := swA n) (k := 2) a3 (by decide)
    rw [show (2 : Int32) = nI 2 from rfl, this, show (3689348814741910323 : Int64) = lN 3689348814741910323 from rfl, fb_andL, fb_andL, lN_add]
    rfl
  have s3 : v3 = lN (swC (swB (swA n))) := by
    rw [e3, s2]
    have := wb_shr (n := swB (swA n)) (k := 4) (by omega) (by decide)
    rw [show (4 : Int32) = nI 4 from rfl, this, lN_add, show (1085102592571150095 : Int64) = lN 1085102592571150095 from rfl, fb_andL]
    rfl
  generalize swC (swB (swA n)) = x at *
  have s4 : v4 = lN (x + x / 256) := by
    rw [e4, s3]
    have := wb_shr (n := x) (k := 8) (by omega) (by decide)
    rw [show (8 : Int32) = nI 8 from rfl, this, lN_add]
  generalize x + x / 256 = y at *
  have s5 : v5 = lN (y + y / 65536) := by
    rw [e5, s4]
    have := wb_shr (n := y) (k := 16) (by omega) (by decide)
    rw [show (16 : Int32) = nI 16 from rfl, this, lN_add]
  generalize y + y / 65536 = z at *
  have s6 : v6 = lN (z + z / 4294967296) := by
    rw [e6, s5]
    have := wb_shr (n := z) (k := 32) (by omega) (by decide)
    rw [show (32 : Int32) = nI 32 from rfl, this, lN_add]
  have s7 : v6.toInt32 &&& (127 : Int32) = nI (fb_ct (fun j => n.testBit j) 64) := by
    rw [s6, lN_i, show (127 : Int32) = nI (2 ^ 7 - 1) from rfl, fa_mask]
    have := b1.trans (sumb_ct 8 n)
    exact congrArg nI this
  rw [s7]
  exact h
