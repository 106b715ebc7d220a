/-! loops by a measure; numbers of pairs; ties -/
theorem lpN {A : Type} (W : Nat → A → Prop) (I : A → Prop) (μ : A → Nat) (hs : ∀ n a, I a → (∀ b, I b → μ b < μ a → W n b) → W (n + 1) a) : ∀ (n : Nat) (a : A), I a → μ a < n → W n a
  | 0, _, _, h => absurd h (Nat.not_lt_zero _)
  | n + 1, a, hI, h => hs n a hI (fun b hb hlt => lpN W I μ hs n b hb (by omega))
def prN (a b : Nat) : Nat := if a < b then b * (b - 1) / 2 + a else a * (a - 1) / 2 + b
def hiN (p : Nat) : Nat := if p < 1 then 1 else if p < 3 then 2 else if p < 6 then 3 else if p < 10 then 4 else if p < 15 then 5 else if p < 21 then 6 else if p < 28 then 7 else if p < 36 then 8 else 9
def loN (p : Nat) : Nat := p - hiN p * (hiN p - 1) / 2
theorem prc : ∀ n, n < 11 → (nI n * (nI n - 1)) / 2 = nI (n * (n - 1) / 2) := by decide +kernel
theorem prd : ∀ n, n < 11 → (nI n * (nI n + 1)) / 2 = nI (n * (n + 1) / 2) := by decide +kernel
theorem hiN_ok : ∀ p, p < 45 → 1 ≤ hiN p ∧ hiN p < 10 ∧ loN p < hiN p ∧ prN (loN p) (hiN p) = p ∧ hiN p * (hiN p - 1) / 2 ≤ p := by decide +kernel
theorem hiN_step : ∀ p, p < 45 → ∀ b, b < 10 → 1 ≤ b → b ≤ hiN p → (p < b * (b + 1) / 2 ↔ b = hiN p) := by decide +kernel
theorem prN_ok : ∀ a, a < 10 → ∀ b, b < 10 → a ≠ b → prN a b < 45 ∧ prN b a = prN a b := by decide +kernel
theorem prN_hl : ∀ a, a < 10 → ∀ b, b < 10 → a < b → hiN (prN a b) = b ∧ loN (prN a b) = a := by decide +kernel
section sm
variable {N : Nat} {σ : zSt} {Q : Int32 → zSt → Prop} {QL : Int64 → zSt → Prop}
theorem m_many {n : Nat} (hn : σ.2.2.1 1 1 = nI n) (h : Q (nI n) σ) : w_X12_many N σ Q := by
  unfold w_X12_many
  rw [hn]; exact h
theorem m_pairs {n : Nat} (hn : σ.2.2.1 1 1 = nI n) (h10 : n ≤ 10) (h : Q (nI (n * (n - 1) / 2)) σ) : w_X12_pairs N σ Q := by
  unfold w_X12_pairs
  refine m_many hn (m_many hn ?_)
  rw [prc n (by omega)]; exact h
theorem m_pairOf {a b : Nat} (ha : a < 10) (hb : b < 10) (h : Q (nI (prN a b)) σ) : w_X12_pairOf N (nI a) (nI b) σ Q := by
  unfold w_X12_pairOf b_X12_pairOf_10
  by_cases hab : a < b
  · have h1 : ¬ nI b ≤ nI a := nI_ge hab (by omega)
    refine ⟨fun q => absurd q h1, fun _ => ⟨fun q => absurd q h1, fun _ => ?_⟩⟩
    show Q (((nI b * (nI b - 1)) / 2) + nI a) σ
    rw [prc b (by omega), nI_add]
    rw [prN, if_pos hab] at h
    exact h
  · have h1 : nI b ≤ nI a := nI_le (by omega) (by omega)
    refine ⟨fun _ => ⟨fun _ => ?_, fun q => absurd h1 q⟩, fun q => absurd h1 q⟩
    show Q (((nI a * (nI a - 1)) / 2) + nI b) σ
    rw [prc a (by omega), nI_add]
    rw [prN, if_neg hab] at h
    exact h
theorem m_highOf {p : Nat} (hN : 20 ≤ N) (hp : p < 45) (h : Q (nI (hiN p)) σ) : w_X12_highOf N (nI p) σ Q := by
  unfold w_X12_highOf
  obtain ⟨g1, g2, -⟩ := hiN_ok p hp
  have key := lpN (fun n (b : Nat) => w_X12_highOf_2 N Q n (nI p) (nI b) σ) (fun b => 1 ≤ b ∧ b ≤ hiN p) (fun b => hiN p - b) (fun n b hI ih => by
    have e := hiN_step p hp b (by omega) hI.1 hI.2
    show b_X12_highOf_2 N (w_X12_highOf_2 N Q n) Q (nI p) (nI b) σ
    unfold b_X12_highOf_2
    rw [prd b (by omega)]
    have hbb : b * (b + 1) / 2 < 2 ^ 31 := by
      have : b * (b + 1) ≤ 9 * 10 := Nat.mul_le_mul (by omega) (by omega)
      omega
    refine ⟨fun q => ?_, fun q => ?_⟩
    · have := e.mp ((nI_ltI (by omega) hbb).mp q)
      rw [this]; exact h
    · intro v1 e1
      rw [e1, nI_1]
      have hne : ¬ b = hiN p := fun q2 => q ((nI_ltI (by omega) hbb).mpr (e.mpr q2))
      exact ih (b + 1) ⟨by omega, by omega⟩ (by omega))
  exact key N 1 ⟨by omega, by omega⟩ (by omega)
theorem m_lowOf {p : Nat} (hN : 20 ≤ N) (hp : p < 45) (h : Q (nI (loN p)) σ) : w_X12_lowOf N (nI p) σ Q := by
  unfold w_X12_lowOf
  obtain ⟨g1, g2, g3, g4, g5⟩ := hiN_ok p hp
  refine m_highOf hN hp ?_
  rw [prc _ (by omega), pk_sub g5]
  exact h
theorem shr_c : ∀ k, k < 64 → ((lN k).toBitVec.smod 64).toNat = k := by decide +kernel
/-- bit p of a net -/
theorem bitL {n p : Nat} (hn : n < 2 ^ 62) (hp : p < 62) : (lN n >>> ((nI p).toInt64 &&& 63)) &&& 1 = lN (if n.testBit p then 1 else 0) := by
  rw [wb_c p (by omega), pf_shr (shr_c p (by omega)) hn, wb_a1 (Nat.lt_of_le_of_lt (Nat.div_le_self _ _) (by omega))]
  congr 1
  have := Nat.testBit_eq_decide_div_mod_eq (x := n) (i := p)
  rw [this]
  have h2 := Nat.mod_two_eq_zero_or_one (n / 2 ^ p)
  rcases h2 with h2 | h2 <;> simp [h2]
theorem m_isTied {n p : Nat} (hn : n < 2 ^ 62) (hp : p < 62) (h : Q (if n.testBit p then 1 else 0) σ) : w_X12_isTied N (lN n) (nI p) σ Q := by
  unfold w_X12_isTied
  rw [bitL hn hp, lg_cmp_eq]
  cases hb : n.testBit p with
  | false =>
    rw [hb] at h
    refine ⟨fun q => absurd q (by decide), fun _ => by simpa using h⟩
  | true =>
    rw [hb] at h
    refine ⟨fun _ => by simpa using h, fun q => absurd rfl q⟩
theorem m_bits {n : Nat} (hN : 60 ≤ N) (hn : n < 2 ^ 62) (h : Q (nI (fb_ct (fun j => n.testBit j) 45)) σ) : w_X12_bits N (lN n) σ Q := by
  unfold w_X12_bits
  have key := lpN (fun f (k : Nat) => w_X12_bits_4 N Q f (lN n) (nI (fb_ct (fun j => n.testBit j) k)) (nI k) σ) (fun k => k ≤ 45) (fun k => 45 - k) (fun f k hI ih => by
    show b_X12_bits_4 N (w_X12_bits_4 N Q f) Q (lN n) (nI (fb_ct (fun j => n.testBit j) k)) (nI k) σ
    unfold b_X12_bits_4
    refine ⟨fun q => ?_, fun q => ?_⟩
    · have hk : k = 45 := by
        have : 45 ≤ k := (nI_leI (a := 45) (b := k) (by decide) (by omega)).mp q
        omega
      rw [hk]; exact h
    · have hk : k < 45 := by
        rcases Nat.lt_or_ge k 45 with g | g
        · exact g
        · exact absurd (nI_le (a := 45) (b := k) g (by omega)) q
      intro v1 e1 v2 e2
      rw [e1, e2, bitL hn (by omega), lN_i, nI_add, nI_1]
      have : fb_ct (fun j => n.testBit j) k + (if n.testBit k then 1 else 0) = fb_ct (fun j => n.testBit j) (k + 1) := rfl
      rw [this]
      exact ih (k + 1) (by show k + 1 ≤ 45; omega) (by show 45 - (k + 1) < 45 - k; omega))
  exact key N 0 (by show 0 ≤ 45; omega) (by show 45 - 0 < N; omega)
theorem m_tiesOf {n p np : Nat} (hN : 60 ≤ N) (hn : n < 2 ^ 62) (hm : σ.2.2.1 1 1 = nI np) (hnp : np ≤ 10) (hp : p < 10) (h : Q (nI (fb_ct (fun q => decide (q ≠ p) && n.testBit (prN p q)) np)) σ) : w_X12_tiesOf N (lN n) (nI p) σ Q := by
  unfold w_X12_tiesOf
  have key := lpN (fun f (k : Nat) => w_X12_tiesOf_6 N Q f (lN n) (nI p) (nI (fb_ct (fun q => decide (q ≠ p) && n.testBit (prN p q)) k)) (nI k) σ) (fun k => k ≤ np) (fun k => np - k) (fun f k hI ih => by
    show b_X12_tiesOf_6 N (w_X12_tiesOf_6 N Q f) Q (lN n) (nI p) (nI (fb_ct (fun q => decide (q ≠ p) && n.testBit (prN p q)) k)) (nI k) σ
    unfold b_X12_tiesOf_6
    refine m_many hm ⟨fun q => ?_, fun q => ?_⟩
    · have hk : k = np := by
        have : np ≤ k := (nI_leI (by omega) (by omega)).mp q
        omega
      rw [hk]; exact h
    · have hk : k < np := by
        rcases Nat.lt_or_ge k np with g | g
        · exact g
        · exact absurd (nI_le g (by omega)) q
      have hs : fb_ct (fun q => decide (q ≠ p) && n.testBit (prN p q)) (k + 1) = fb_ct (fun q => decide (q ≠ p) && n.testBit (prN p q)) k + (if (decide (k ≠ p) && n.testBit (prN p k)) = true then 1 else 0) := rfl
      have goal := ih (k + 1) (by show k + 1 ≤ np; omega) (by show np - (k + 1) < np - k; omega)
      refine ⟨fun q2 => ?_, fun q2 => ?_⟩
      · have : k = p := (nI_eq (by omega) (by omega)).mp q2
        intro v3 e3
        rw [e3, nI_1]
        rw [hs, this] at goal
        simpa [this] using goal
      · have hkp : k ≠ p := fun e => q2 (by rw [e])
        refine m_pairOf hp (by omega) (m_isTied hn (by have := (prN_ok p hp k (by omega) (Ne.symm hkp)).1; omega) ⟨fun q3 => ?_, fun q3 => ?_⟩)
        · intro v8 e8
          have hb : n.testBit (prN p k) = false := by
            cases hb : n.testBit (prN p k) with
            | false => rfl
            | true => rw [hb] at q3; exact absurd q3 (by decide)
          rw [e8, nI_1]
          rw [hs, hb] at goal
          simpa using goal
        · intro v9 e9 v10 e10
          have hb : n.testBit (prN p k) = true := by
            cases hb : n.testBit (prN p k) with
            | true => rfl
            | false => rw [hb] at q3; exact absurd rfl q3
          rw [e9, e10, nI_1, nI_1]
          rw [hs, hb] at goal
          simpa [hkp] using goal)
  exact key N 0 (Nat.zero_le _) (by show np - 0 < N; omega)
end sm
