/-! letters of names -/
def dgt (v k : Nat) : Nat := v / 2 ^ (5 * (5 - k)) % 32
def hD (d : Nat → Nat) : Nat → Nat
  | 0 => 0
  | m + 1 => 27 * hD d m + d m
def nmF (d : Nat → Nat) : Nat := (List.range 6).foldl (fun a k => if d k = 0 then a else 27 * a + d k) 0
theorem nmF_is (d : Nat → Nat) (h0 : d 0 ≠ 0) (h1 : ∀ k, k < 6 → d k ≤ 26) (h2 : ∀ k, k < 5 → d k = 0 → d (k + 1) = 0) : ∃ m, 1 ≤ m ∧ m ≤ 6 ∧ (∀ k, k < m → 1 ≤ d k ∧ d k ≤ 26) ∧ (∀ k, m ≤ k → k < 6 → d k = 0) ∧ nmF d = hD d m := by
  have e : List.range 6 = [0, 1, 2, 3, 4, 5] := by decide
  have f1 := h2 1 (by decide)
  have f2 := h2 2 (by decide)
  have f3 := h2 3 (by decide)
  have f4 := h2 4 (by decide)
  unfold nmF
  rw [e]
  simp only [List.foldl]
  rw [if_neg h0]
  by_cases q1 : d 1 = 0
  · have q2 := f1 q1
    have q3 := f2 q2
    have q4 := f3 q3
    have q5 := f4 q4
    rw [if_pos q1, if_pos q2, if_pos q3, if_pos q4, if_pos q5]
    refine ⟨1, by decide, by decide, fun k hk => ?_, fun k hk hk2 => ?_, rfl⟩
    · have : k = 0 := by omega
      subst this; exact ⟨by omega, h1 0 (by decide)⟩
    · have : k = 1 ∨ k = 2 ∨ k = 3 ∨ k = 4 ∨ k = 5 := by omega
      rcases this with z | z | z | z | z <;> subst z <;> assumption
  · rw [if_neg q1]
    by_cases q2 : d 2 = 0
    · have q3 := f2 q2
      have q4 := f3 q3
      have q5 := f4 q4
      rw [if_pos q2, if_pos q3, if_pos q4, if_pos q5]
      refine ⟨2, by decide, by decide, fun k hk => ⟨?_, h1 k (by omega)⟩, fun k hk hk2 => ?_, rfl⟩
      · have : k = 0 ∨ k = 1 := by omega
        rcases this with z | z <;> subst z <;> omega
      · have : k = 2 ∨ k = 3 ∨ k = 4 ∨ k = 5 := by omega
        rcases this with z | z | z | z <;> subst z <;> assumption
    · rw [if_neg q2]
      by_cases q3 : d 3 = 0
      · have q4 := f3 q3
        have q5 := f4 q4
        rw [if_pos q3, if_pos q4, if_pos q5]
        refine ⟨3, by decide, by decide, fun k hk => ⟨?_, h1 k (by omega)⟩, fun k hk hk2 => ?_, rfl⟩
        · have : k = 0 ∨ k = 1 ∨ k = 2 := by omega
          rcases this with z | z | z <;> subst z <;> omega
        · have : k = 3 ∨ k = 4 ∨ k = 5 := by omega
          rcases this with z | z | z <;> subst z <;> assumption
      · rw [if_neg q3]
        by_cases q4 : d 4 = 0
        · have q5 := f4 q4
          rw [if_pos q4, if_pos q5]
          refine ⟨4, by decide, by decide, fun k hk => ⟨?_, h1 k (by omega)⟩, fun k hk hk2 => ?_, rfl⟩
          · have : k = 0 ∨ k = 1 ∨ k = 2 ∨ k = 3 := by omega
            rcases this with z | z | z | z <;> subst z <;> omega
          · have : k = 4 ∨ k = 5 := by omega
            rcases this with z | z <;> subst z <;> assumption
        · rw [if_neg q4]
          by_cases q5 : d 5 = 0
          · rw [if_pos q5]
            refine ⟨5, by decide, by decide, fun k hk => ⟨?_, h1 k (by omega)⟩, fun k hk hk2 => ?_, rfl⟩
            · have : k = 0 ∨ k = 1 ∨ k = 2 ∨ k = 3 ∨ k = 4 := by omega
              rcases this with z | z | z | z | z <;> subst z <;> omega
            · have : k = 5 := by omega
              subst this; exact q5
          · rw [if_neg q5]
            refine ⟨6, by decide, by decide, fun k hk => ⟨?_, h1 k (by omega)⟩, fun k hk hk2 => absurd hk2 (by omega), rfl⟩
            have : k = 0 ∨ k = 1 ∨ k = 2 ∨ k = 3 ∨ k = 4 ∨ k = 5 := by omega
            rcases this with z | z | z | z | z | z <;> subst z <;> omega
theorem mNa_is {v : Nat} (h : nmOk v) : ∃ m, 1 ≤ m ∧ m ≤ 6 ∧ (∀ k, k < m → 1 ≤ dgt v k ∧ dgt v k ≤ 26) ∧ (∀ k, m ≤ k → k < 6 → dgt v k = 0) ∧ mNa v = hD (dgt v) m := by
  have hv := h.1
  refine nmF_is (dgt v) ?_ h.2.2.1 h.2.2.2
  have e : dgt v 0 = v / 2 ^ 25 % 32 := rfl
  have h2 := h.2.1
  rw [e, Nat.mod_eq_of_lt (by omega)]
  exact h2
theorem hD_lt {d : Nat → Nat} {n : Nat} (h : ∀ k, k < n → 1 ≤ d k ∧ d k ≤ 26) : ∀ m, m ≤ n → hD d m < 27 ^ m
  | 0, _ => by show 0 < 1; decide
  | m + 1, hm => by
    have h1 := hD_lt h m (by omega)
    have h2 := h m (by omega)
    rw [hD, Nat.pow_succ]
    omega
theorem hD_6 {d : Nat → Nat} {n m : Nat} (h : ∀ k, k < n → 1 ≤ d k ∧ d k ≤ 26) (hn : n ≤ 6) (hm : m ≤ n) : hD d m < 387420489 := by
  have h1 := hD_lt h m hm
  have h2 : 27 ^ m ≤ 27 ^ 6 := Nat.pow_le_pow_right (by decide) (by omega)
  have h3 : 27 ^ 6 = 387420489 := by decide
  omega
theorem hD_div {d : Nat → Nat} {n m : Nat} (h : ∀ k, k < n → 1 ≤ d k ∧ d k ≤ 26) (hm : m < n) : hD d (m + 1) / 27 = hD d m ∧ hD d (m + 1) % 27 = d m ∧ 0 < hD d (m + 1) := by
  have h2 := h m hm
  rw [hD]
  omega
theorem b32_n {b : Bool} : ¬ b32 b = 0 ↔ b = true := by cases b <;> decide
def letA (l : zL) (p k : Int32) : Int32 := if perB l p = true then (if k < 0 then -1 else if k < 6 then (nI (lNa l p.toNatClampNeg) >>> (((5 : Int32) * ((5 : Int32) - k)) &&& 31)) &&& 31 else -1) else -1
section le
variable {N : Nat} {σ τ μ ν : zSt} {tp : Nat × (Nat → Nat)} {fa : Int32 × Int32} {l : zL} {net : Nat} {x : Int32} {ba rg : Nat → Int64} {ls : Nat × (Nat → Int64)} {cm : Nat × (Nat → Int64) × (Nat → Int32)} {li : Int64} {oc : Nat → Int32}
theorem X_letter {p k : Int32} {Q : Int32 → zSt → Prop} (h : XR σ tp fa l net x ba rg ls cm li oc) (hQ : XR σ tp fa l net x ba rg ls cm li oc → Q (letA l p k) σ) : w_X11_letter N p k σ Q := by
  have hq := hQ h
  obtain ⟨b1, b2, b3, b4, b5, b6, b7, b8, b9, b10, b11, b12⟩ := id h
  have h10 := b3.1.1
  unfold letA at hq
  unfold w_X11_letter
  refine x_isPer b3.2.2.1.1 ⟨fun q => ?_, fun q => ?_⟩
  · rw [if_neg (by rw [b32_0.mp q]; decide)] at hq; exact hq
  · have q := b32_n.mp q
    obtain ⟨j, hj, e1, e2⟩ := per_t h10 q
    rw [if_pos q] at hq
    refine ⟨fun q2 => by rw [if_pos q2] at hq; exact hq, fun q2 => ⟨fun q3 => ?_, fun q3 => by rw [if_neg q2, if_neg q3] at hq; exact hq⟩⟩
    rw [if_neg q2, if_pos q3] at hq
    rw [e2] at hq ⊢
    rw [(b3.2.2.1.2.2.2 j hj).2.2, e1]
    exact ⟨vp_in_nI (by omega) (by decide), hq⟩
theorem m_let73 {d : Nat → Nat} {m k : Nat} {Q : Int32 → zSt → Prop} (hN : 1100 < N) (hd : ∀ k, k < m → 1 ≤ d k ∧ d k ≤ 26) (hm : m ≤ 6) (hk : k < m) (hQ : Q (nI (d k)) μ) : w_X12_letter_73 N Q N (nI k) (lN (hD d m)) (nI (m - 1)) μ := by
  refine loopU (S := Unit) (fun f i _ => w_X12_letter_73 N Q f (nI k) (lN (hD d (m - i))) (nI (m - 1 - i)) μ) (fun _ _ => True) (m - 1 - k) ?_ ?_ N 0 () (Nat.zero_le _) (by omega) trivial
  · intro f _ _
    show b_X12_letter_73 N (w_X12_letter_73 N Q f) Q (nI k) (lN (hD d (m - (m - 1 - k)))) (nI (m - 1 - (m - 1 - k))) μ
    unfold b_X12_letter_73
    have e1 : m - 1 - (m - 1 - k) = k := by omega
    have e2 : m - (m - 1 - k) = k + 1 := by omega
    have h6 := hD_6 hd hm (m := k + 1) (by omega)
    rw [e1, e2, show (27 : Int64) = lN 27 from rfl, pk_lRem (by omega) (by decide) (by decide), lN_i, (hD_div hd hk).2.1]
    exact br_t (nI_le (Nat.le_refl _) (by omega)) hQ
  · intro f i _ hi _ ih
    show b_X12_letter_73 N (w_X12_letter_73 N Q f) Q (nI k) (lN (hD d (m - i))) (nI (m - 1 - i)) μ
    unfold b_X12_letter_73
    have h6 := hD_6 hd hm (m := m - i) (by omega)
    have e2 : m - i = (m - (i + 1)) + 1 := by omega
    have e3 : nI (m - 1 - i) + (-1) = nI (m - 1 - (i + 1)) := by
      rw [show m - 1 - (i + 1) = m - 1 - i - 1 by omega, ← pk_sub (a := m - 1 - i) (b := 1) (by omega)]
      exact (Int32.sub_eq_add_neg ..).symm
    have e4 : hD d (m - i) / 27 = hD d (m - (i + 1)) := by rw [e2]; exact (hD_div hd (by omega)).1
    rw [e3, show (27 : Int64) = lN 27 from rfl, pk_lDiv (by omega) (by decide) (by decide), e4]
    exact br_f (nI_ge (by omega) (by omega)) (nm_e (nm_e (ih () trivial)))
theorem m_let38 {d : Nat → Nat} {m k : Nat} {Q : Int32 → zSt → Prop} (hN : 1100 < N) (hd : ∀ k, k < m → 1 ≤ d k ∧ d k ≤ 26) (hz : ∀ k, m ≤ k → k < 6 → d k = 0) (hm1 : 1 ≤ m) (hm : m ≤ 6) (hk : k < 6) (hQ : Q (nI (d k)) μ) : w_X12_letter_38 N Q N (nI k) (lN (hD d m)) (nI 0) (lN (hD d m)) μ := by
  refine loopU (S := Unit) (fun f i _ => w_X12_letter_38 N Q f (nI k) (lN (hD d m)) (nI i) (lN (hD d (m - i))) μ) (fun _ _ => True) m ?_ ?_ N 0 () (Nat.zero_le _) (by omega) trivial
  · intro f _ _
    show b_X12_letter_38 N (w_X12_letter_38 N Q f) Q (nI k) (lN (hD d m)) (nI m) (lN (hD d (m - m))) μ
    unfold b_X12_letter_38
    rw [Nat.sub_self, lg_cmp_le]
    refine br_t (show lN (hD d 0) ≤ 0 from by show (0 : Int64) ≤ 0; decide) ⟨fun q => nm_e ?_, fun q => ?_⟩
    · have q : k < m := (nI_ltI (by omega) (by omega)).mp q
      rw [show (1 : Int32) = nI 1 from rfl, pk_sub (by omega)]
      exact m_let73 hN hd hm q hQ
    · have q : m ≤ k := by
        by_cases z : m ≤ k
        · exact z
        · exact absurd ((nI_ltI (by omega) (by omega)).mpr (by omega)) q
      rw [hz k q hk] at hQ
      exact hQ
  · intro f i _ hi _ ih
    show b_X12_letter_38 N (w_X12_letter_38 N Q f) Q (nI k) (lN (hD d m)) (nI i) (lN (hD d (m - i))) μ
    unfold b_X12_letter_38
    have h6 := hD_6 hd hm (m := m - i) (by omega)
    have e2 : m - i = (m - (i + 1)) + 1 := by omega
    have e5 := hD_div hd (m := m - (i + 1)) (by omega)
    rw [← e2] at e5
    rw [lg_cmp_le, show (27 : Int64) = lN 27 from rfl, pk_lDiv (by omega) (by decide) (by decide), e5.1, nI_1]
    exact br_f (fun z => by have := (lN_le (b := 0) (by omega) (by omega)).mp z; omega) (nm_e (nm_e (ih () trivial)))
theorem shl5 : ∀ k, k < 6 → ((((5 : Int32) * ((5 : Int32) - nI k)) &&& 31).toBitVec.smod 32).toNat = 5 * (5 - k) := by decide +kernel
theorem M_letter {p k : Int32} {Q : Int32 → zSt → Prop} (hN : 1100 < N) (h : MR μ tp fa l net x ba rg ls cm li oc) (hQ : MR μ tp fa l net x ba rg ls cm li oc → Q (letA l p k) μ) : w_X12_letter N p k μ Q := by
  have hq := hQ h
  obtain ⟨b1, b2, b3, b4, b5, b6, b7, b8, b9, b10, b11, b12⟩ := id h
  have h10 := b3.1.1
  unfold letA at hq
  unfold w_X12_letter
  refine m_isPer h10 b3.2.2.1.1 ⟨fun q => ?_, fun q => m_isIn ⟨fun q2 => ?_, fun q2 => ?_⟩⟩
  · rw [if_neg (by rw [b32_0.mp q]; decide)] at hq; exact hq
  · have q := b32_n.mp q
    have q2 := b32_0.mp q2
    rw [if_pos q] at hq
    by_cases z : k < 0
    · rw [if_pos z] at hq; exact hq
    · rw [if_neg z] at hq
      by_cases z2 : k < 6
      · exfalso
        have a1 : (0 : Int64) ≤ k.toInt64 := (fa_wide_le 0 k).mpr (nlt_le.mp z)
        have a2 : k.toInt64 ≤ (5 : Int64) := (fa_wide_le k 5).mpr (by rw [fa_le]; rw [fa_lt] at z2; have : (6 : Int32).toInt = 6 := by decide
                                                                      have : (5 : Int32).toInt = 5 := by decide
                                                                      omega)
        rw [decide_eq_true a1, decide_eq_true a2] at q2
        exact absurd q2 (by decide)
      · rw [if_neg z2] at hq; exact hq
  · have q := b32_n.mp q
    have q2 := b32_n.mp q2
    obtain ⟨j, hj, e1, e2⟩ := per_t h10 q
    have a1 : (0 : Int64) ≤ k.toInt64 := of_decide_eq_true (Bool.and_eq_true_iff.mp q2).1
    have a2 : k.toInt64 ≤ (5 : Int64) := of_decide_eq_true (Bool.and_eq_true_iff.mp q2).2
    have a1 : (0 : Int32) ≤ k := (fa_wide_le 0 k).mp a1
    have a2 : k ≤ (5 : Int32) := (fa_wide_le k 5).mp a2
    have a3 : k < 6 := by
      rw [fa_lt]; rw [fa_le] at a2
      have : (6 : Int32).toInt = 6 := by decide
      have : (5 : Int32).toInt = 5 := by decide
      omega
    obtain ⟨i, hi, e3, e4⟩ := ixc (n := 6) (by decide) a1 a3
    have hn := b4 j hj
    obtain ⟨m, m1, m2, m3, m4, m5⟩ := mNa_is hn.1
    have hv := hn.1.1
    rw [if_pos q, if_neg (nlt_le.mpr a1), if_pos a3, e2, e3, pk_shrN (by omega) _ _ (shl5 i hi), show (31 : Int32) = nI (2 ^ 5 - 1) from rfl, fa_mask] at hq
    have e5 : (10 : Int32) + p = nI (10 + j) := by rw [e1, show (10 : Int32) = nI 10 from rfl, nI_add]
    rw [e5, nI_clamp (by omega), hn.2, m5, e3]
    exact ⟨vp_in_nI (by omega) (by decide), nm_e (m_let38 (d := dgt (lNa l j)) hN m3 m4 m1 m2 hi hq)⟩
end le
