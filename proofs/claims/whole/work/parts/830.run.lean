/-! the tape: runs of bytes of one kind -/
def rnE (P : Nat → Bool) : Nat → Nat → Nat
  | 0, p => p
  | f + 1, p => if P p = true then rnE P f (p + 1) else p
def enF (P : Nat → Bool) (p : Nat) : Nat := rnE P 801 p
section rn
variable {P : Nat → Bool} {p : Nat}
theorem rnE_n (h : P p = false) : ∀ f, rnE P f p = p
  | 0 => rfl
  | f + 1 => by rw [rnE, h]; rfl
theorem rnE_s (hP : ∀ q, P q = true → q < 800) : ∀ f p, 800 ≤ p + f → rnE P (f + 1) p = rnE P f p
  | 0, p, h => by
    have : P p = false := by
      cases e : P p with
      | false => rfl
      | true => have := hP p e; omega
    rw [rnE_n this, rnE_n this]
  | f + 1, p, h => by
    cases e : P p with
    | false => rw [rnE_n e, rnE_n e]
    | true =>
      have e1 : rnE P (f + 1 + 1) p = rnE P (f + 1) (p + 1) := by rw [rnE, if_pos e]
      have e2 : rnE P (f + 1) p = rnE P f (p + 1) := by rw [rnE, if_pos e]
      rw [e1, e2]
      exact rnE_s hP f (p + 1) (by omega)
theorem enF_e (h : P p = false) : enF P p = p := rnE_n h _
theorem enF_s (hP : ∀ q, P q = true → q < 800) (h : P p = true) : enF P p = enF P (p + 1) := by
  unfold enF
  have e : rnE P 801 p = rnE P 800 (p + 1) := by rw [rnE, if_pos h]
  rw [e, rnE_s hP 800 (p + 1) (by omega)]
theorem rnE_ge : ∀ f p, p ≤ rnE P f p
  | 0, p => Nat.le_refl _
  | f + 1, p => by
    rw [rnE]
    split
    · have := rnE_ge f (p + 1); omega
    · exact Nat.le_refl _
theorem enF_ge (p : Nat) : p ≤ enF P p := rnE_ge _ _
theorem rnE_in : ∀ f p q, p ≤ q → q < rnE P f p → P q = true
  | 0, p, q, h1, h2 => by have h2 : q < p := h2; omega
  | f + 1, p, q, h1, h2 => by
    rw [rnE] at h2
    split at h2
    · by_cases e : q = p
      · rw [e]; assumption
      · exact rnE_in f (p + 1) q (by omega) h2
    · omega
theorem enF_in {p q : Nat} (h1 : p ≤ q) (h2 : q < enF P p) : P q = true := rnE_in _ _ _ h1 h2
theorem rnE_o (hP : ∀ q, P q = true → q < 800) : ∀ f p, 800 ≤ p + f → P (rnE P f p) = false
  | 0, p, h => by
    cases e : P (rnE P 0 p) with
    | false => rfl
    | true => have e : P p = true := e; have := hP p e; omega
  | f + 1, p, h => by
    cases e : P p with
    | false => rw [rnE_n e]; exact e
    | true => rw [rnE, if_pos e]; exact rnE_o hP f (p + 1) (by omega)
theorem enF_o (hP : ∀ q, P q = true → q < 800) (p : Nat) : P (enF P p) = false := rnE_o hP _ _ (by omega)
theorem enF_q (hP : ∀ q, P q = true → q < 800) {p q : Nat} (h1 : p ≤ q) (h2 : q ≤ enF P p) : enF P q = enF P p := by
  have : ∀ d p, q - p = d → p ≤ q → q ≤ enF P p → enF P q = enF P p := by
    intro d
    induction d with
    | zero => intro p h h1 h2; rw [show q = p by omega]
    | succ d ih =>
      intro p h h1 h2
      have e : P p = true := enF_in (Nat.le_refl _) (by omega)
      rw [enF_s hP e] at h2 ⊢
      exact ih (p + 1) (by omega) (by omega) h2
  exact this _ p rfl h1 h2
theorem enF_le {n : Nat} (hP : ∀ q, P q = true → q < n) {p : Nat} (h : p ≤ n) : enF P p ≤ n := by
  by_cases e : enF P p = p
  · omega
  · have := enF_ge (P := P) p
    have h3 := hP (enF P p - 1) (enF_in (p := p) (by omega) (by omega))
    omega
end rn
/-- a byte, 256 at the end -/
def chT (tp : Nat × (Nat → Nat)) (p : Nat) : Nat := if p < tp.1 then tp.2 p else 256
def lB (tp : Nat × (Nat → Nat)) (p : Nat) : Bool := decide (97 ≤ chT tp p) && decide (chT tp p ≤ 122)
def dB (tp : Nat × (Nat → Nat)) (p : Nat) : Bool := decide (48 ≤ chT tp p) && decide (chT tp p ≤ 57)
def kB (tp : Nat × (Nat → Nat)) (p : Nat) : Bool := decide (chT tp p = 10) || decide (chT tp p = 32)
def sT (tp : Nat × (Nat → Nat)) (p : Nat) : Nat := enF (kB tp) p
def eT (tp : Nat × (Nat → Nat)) (s : Nat) : Nat := if lB tp s = true then enF (lB tp) s else if dB tp s = true then enF (dB tp) s else if s < tp.1 then s + 1 else s
def wnB (tp : Nat × (Nat → Nat)) (s : Nat) : Bool := lB tp s || dB tp s
def kT (tp : Nat × (Nat → Nat)) (p : Nat) (g : Bool) : Nat :=
  if lB tp (sT tp p) = true then (if g = true ∧ sT tp p = p then 4 else 1) else if dB tp (sT tp p) = true then (if g = true ∧ sT tp p = p then 4 else 2) else if sT tp p < tp.1 then 3 else 0
def nuR (f : Nat → Nat) : Nat → Nat
  | 0 => 0
  | k + 1 => 10 * nuR f k + (f k - 48)
def vT (tp : Nat × (Nat → Nat)) (p : Nat) : Nat :=
  if lB tp (sT tp p) = true then pkW (fun k => tp.2 (sT tp p + k)) (eT tp (sT tp p) - sT tp p) else if dB tp (sT tp p) = true then nuR (fun k => tp.2 (sT tp p + k)) (min (eT tp (sT tp p) - sT tp p) 4) else chT tp (sT tp p)
def wiF (v : Nat) : Nat → Nat
  | 0 => 99
  | i + 1 => if owdN i = v then i else wiF v i
def wT (tp : Nat × (Nat → Nat)) (p : Nat) (g : Bool) : Nat := if kT tp p g = 1 ∧ eT tp (sT tp p) - sT tp p ≤ 6 then wiF (vT tp p) 19 else 99
def whI (w : Nat) : Int32 := if w = 99 then -1 else nI w
section tk
variable {tp : Nat × (Nat → Nat)} {p q s : Nat} {g : Bool}
theorem lB_i : lB tp p = true ↔ 97 ≤ chT tp p ∧ chT tp p ≤ 122 := by unfold lB; rw [Bool.and_eq_true, decide_eq_true_eq, decide_eq_true_eq]
theorem dB_i : dB tp p = true ↔ 48 ≤ chT tp p ∧ chT tp p ≤ 57 := by unfold dB; rw [Bool.and_eq_true, decide_eq_true_eq, decide_eq_true_eq]
theorem kB_i : kB tp p = true ↔ chT tp p = 10 ∨ chT tp p = 32 := by unfold kB; rw [Bool.or_eq_true, decide_eq_true_eq, decide_eq_true_eq]
theorem ch_t (h : p < tp.1) : chT tp p = tp.2 p := if_pos h
theorem ch_f (h : tp.1 ≤ p) : chT tp p = 256 := if_neg (by omega)
theorem ch_lt (h : chT tp p ≤ 255) : p < tp.1 := by
  rcases Nat.lt_or_ge p tp.1 with g | g
  · exact g
  · rw [ch_f g] at h; omega
theorem lB_lt (h : lB tp p = true) : p < tp.1 := ch_lt (by have := lB_i.mp h; omega)
theorem dB_lt (h : dB tp p = true) : p < tp.1 := ch_lt (by have := dB_i.mp h; omega)
theorem kB_lt (h : kB tp p = true) : p < tp.1 := ch_lt (by have := kB_i.mp h; omega)
theorem lB_d (h : lB tp p = true) : dB tp p = false := by
  cases e : dB tp p with
  | false => rfl
  | true => have := lB_i.mp h; have := dB_i.mp e; omega
theorem lB_k (h : lB tp p = true) : kB tp p = false := by
  cases e : kB tp p with
  | false => rfl
  | true => have := lB_i.mp h; have := kB_i.mp e; omega
theorem dB_k (h : dB tp p = true) : kB tp p = false := by
  cases e : kB tp p with
  | false => rfl
  | true => have := dB_i.mp h; have := kB_i.mp e; omega
theorem lP (h8 : tp.1 ≤ 800) : ∀ q, lB tp q = true → q < 800 := fun q h => by have := lB_lt h; omega
theorem dP (h8 : tp.1 ≤ 800) : ∀ q, dB tp q = true → q < 800 := fun q h => by have := dB_lt h; omega
theorem kP (h8 : tp.1 ≤ 800) : ∀ q, kB tp q = true → q < 800 := fun q h => by have := kB_lt h; omega
theorem sT_ge (tp : Nat × (Nat → Nat)) (p : Nat) : p ≤ sT tp p := enF_ge p
theorem sT_le (h : p ≤ tp.1) : sT tp p ≤ tp.1 := enF_le (fun q hq => kB_lt hq) h
theorem sT_k (h8 : tp.1 ≤ 800) : kB tp (sT tp p) = false := enF_o (kP h8) p
theorem sT_n (h : kB tp p = false) : sT tp p = p := enF_e h
theorem sT_q (h8 : tp.1 ≤ 800) (h1 : p ≤ q) (h2 : q ≤ sT tp p) : sT tp q = sT tp p := enF_q (kP h8) h1 h2
theorem eT_le (h : s ≤ tp.1) : eT tp s ≤ tp.1 := by
  unfold eT
  split
  · exact enF_le (fun q hq => lB_lt hq) h
  · split
    · exact enF_le (fun q hq => dB_lt hq) h
    · split
      · omega
      · exact h
theorem enF_gt {P : Nat → Bool} (h8 : ∀ q, P q = true → q < 800) (h : P s = true) : s < enF P s := by
  rw [enF_s h8 h]
  have := enF_ge (P := P) (s + 1)
  omega
theorem eT_gt (h8 : tp.1 ≤ 800) (h : s < tp.1) : s < eT tp s := by
  unfold eT
  split
  · exact enF_gt (lP h8) (by assumption)
  · split
    · exact enF_gt (dP h8) (by assumption)
    · omega
theorem kT_0 (h : kT tp p g = 0) : tp.1 ≤ sT tp p := by
  unfold kT at h
  split at h
  · split at h <;> omega
  · split at h
    · split at h <;> omega
    · split at h
      · omega
      · omega
theorem kT_n0 (h : ¬ kT tp p g = 0) : sT tp p < tp.1 := by
  rcases Nat.lt_or_ge (sT tp p) tp.1 with e | e
  · exact e
  · have hl : lB tp (sT tp p) = false := by
      cases z : lB tp (sT tp p) with
      | false => rfl
      | true => have := lB_lt z; omega
    have hd : dB tp (sT tp p) = false := by
      cases z : dB tp (sT tp p) with
      | false => rfl
      | true => have := dB_lt z; omega
    exact absurd (by unfold kT; rw [if_neg (by rw [hl]; decide), if_neg (by rw [hd]; decide), if_neg (by omega)]) h
theorem kT_1 (h : kT tp p g = 1) : lB tp (sT tp p) = true ∧ ¬ (g = true ∧ sT tp p = p) := by
  unfold kT at h
  split at h
  · rename_i hl
    split at h
    · omega
    · exact ⟨hl, by assumption⟩
  · split at h
    · split at h <;> omega
    · split at h <;> omega
theorem kT_2 (h : kT tp p g = 2) : dB tp (sT tp p) = true ∧ ¬ (g = true ∧ sT tp p = p) := by
  unfold kT at h
  split at h
  · split at h <;> omega
  · split at h
    · rename_i hd
      split at h
      · omega
      · exact ⟨hd, by assumption⟩
    · split at h <;> omega
theorem kT_3 (h : kT tp p g = 3) : lB tp (sT tp p) = false ∧ dB tp (sT tp p) = false ∧ sT tp p < tp.1 := by
  unfold kT at h
  split at h
  · split at h <;> omega
  · rename_i hl
    split at h
    · split at h <;> omega
    · rename_i hd
      split at h
      · exact ⟨by simpa using hl, by simpa using hd, by assumption⟩
      · omega
theorem kT_le : kT tp p g ≤ 4 := by
  unfold kT
  split
  · split <;> omega
  · split
    · split <;> omega
    · split <;> omega
/-- a letter comes: a word, or one too near -/
theorem kT_l (h : lB tp (sT tp p) = true) : kT tp p g = if g = true ∧ sT tp p = p then 4 else 1 := by unfold kT; rw [if_pos h]
theorem kT_d (h : dB tp (sT tp p) = true) : kT tp p g = if g = true ∧ sT tp p = p then 4 else 2 := by
  have : lB tp (sT tp p) = false := by
    cases e : lB tp (sT tp p) with
    | false => rfl
    | true => rw [lB_d e] at h; exact absurd h (by decide)
  unfold kT; rw [if_neg (by rw [this]; decide), if_pos h]
theorem kT_s (hl : lB tp (sT tp p) = false) (hd : dB tp (sT tp p) = false) : kT tp p g = if sT tp p < tp.1 then 3 else 0 := by
  unfold kT; rw [if_neg (by rw [hl]; decide), if_neg (by rw [hd]; decide)]
end tk
