/-! words packed: letters as digits -/
section pw
variable {f f' : Nat → Nat} {n n' k : Nat}
theorem hoR_lt (h : ∀ k, k < n → f k - 96 < 32) : ∀ m, m ≤ n → hoR f m < 32 ^ m
  | 0, _ => by show 0 < 1; decide
  | m + 1, hm => by
    have h1 := hoR_lt h m (by omega)
    have h2 := h m (by omega)
    rw [hoR, Nat.pow_succ]
    omega
theorem hoR_c : ∀ n, (∀ k, k < n → f k = f' k) → hoR f n = hoR f' n
  | 0, _ => rfl
  | n + 1, h => by rw [hoR, hoR, hoR_c n (fun k hk => h k (by omega)), h n (by omega)]
theorem pkW_c (h : ∀ k, k < min n 6 → f k = f' k) : pkW f n = pkW f' n := by unfold pkW; rw [hoR_c _ h]
theorem pkW_n (h : n ≤ 6) : pkW f n = hoR f n * 2 ^ (5 * (6 - n)) := by unfold pkW; rw [Nat.min_eq_left h]
theorem hoR_dig (h : ∀ k, k < n → f k - 96 < 32) : ∀ m, m ≤ n → ∀ j, j < m → hoR f m / 32 ^ j % 32 = f (m - 1 - j) - 96
  | 0, _, j, hj => absurd hj (Nat.not_lt_zero _)
  | m + 1, hm, 0, _ => by
    have h2 := h m (by omega)
    rw [hoR, Nat.pow_zero, Nat.div_one, show m + 1 - 1 - 0 = m by omega]
    omega
  | m + 1, hm, j + 1, hj => by
    have h2 := h m (by omega)
    have e : hoR f (m + 1) / 32 = hoR f m := by rw [hoR]; omega
    rw [show (32 : Nat) ^ (j + 1) = 32 * 32 ^ j by rw [Nat.pow_succ, Nat.mul_comm], ← Nat.div_div_eq_div_mul, e, hoR_dig h m (by omega) j (by omega), show m + 1 - 1 - (j + 1) = m - 1 - j by omega]
theorem p32 (a : Nat) : 2 ^ (5 * a) = 32 ^ a := by rw [Nat.pow_mul]
theorem pw_dig (hn : n ≤ 6) (h : ∀ k, k < n → f k - 96 < 32) (hk : k < 6) : dgt (pkW f n) k = if k < n then f k - 96 else 0 := by
  unfold dgt
  rw [pkW_n hn, p32, p32]
  by_cases c : k < n
  · rw [if_pos c, show 5 - k = (6 - n) + (n - 1 - k) by omega, Nat.pow_add, ← Nat.div_div_eq_div_mul, Nat.mul_div_cancel _ (Nat.pow_pos (by decide)), hoR_dig h n (Nat.le_refl _) _ (by omega), show n - 1 - (n - 1 - k) = k by omega]
  · rw [if_neg c, show 6 - n = (5 - k) + (k - n + 1) by omega, Nat.pow_add, ← Nat.mul_assoc, Nat.mul_right_comm, Nat.mul_div_cancel _ (Nat.pow_pos (by decide)), Nat.pow_succ, ← Nat.mul_assoc, Nat.mul_mod_left]
theorem pw_lt (hn : n ≤ 6) (h : ∀ k, k < n → f k - 96 < 32) : pkW f n < 2 ^ 30 := by
  have h1 := hoR_lt h n (Nat.le_refl _)
  rw [pkW_n hn, p32]
  have h2 : hoR f n * 32 ^ (6 - n) < 32 ^ n * 32 ^ (6 - n) := Nat.mul_lt_mul_of_pos_right h1 (Nat.pow_pos (by decide))
  rw [← Nat.pow_add, show n + (6 - n) = 6 by omega] at h2
  exact h2
theorem pw_inj (hn : n ≤ 6) (hn' : n' ≤ 6) (h : ∀ k, k < n → 97 ≤ f k ∧ f k ≤ 122) (h' : ∀ k, k < n' → 97 ≤ f' k ∧ f' k ≤ 122) (e : pkW f n = pkW f' n') : n = n' ∧ ∀ k, k < n → f k = f' k := by
  have a := fun k (hk : k < 6) => pw_dig (f := f) hn (fun k hk => by have := h k hk; omega) hk
  have b := fun k (hk : k < 6) => pw_dig (f := f') hn' (fun k hk => by have := h' k hk; omega) hk
  have c : ∀ k, k < 6 → (k < n ↔ k < n') ∧ (k < n → f k = f' k) := fun k hk => by
    have ak := a k hk
    have bk := b k hk
    rw [e] at ak
    rw [ak] at bk
    by_cases c1 : k < n
    · have := h k c1
      by_cases c2 : k < n'
      · have := h' k c2
        rw [if_pos c1, if_pos c2] at bk
        exact ⟨⟨fun _ => c2, fun _ => c1⟩, fun _ => by omega⟩
      · rw [if_pos c1, if_neg c2] at bk
        omega
    · by_cases c2 : k < n'
      · have := h' k c2
        rw [if_neg c1, if_pos c2] at bk
        omega
      · exact ⟨⟨fun z => absurd z c1, fun z => absurd z c2⟩, fun z => absurd z c1⟩
  refine ⟨?_, fun k hk => (c k (by omega)).2 hk⟩
  rcases Nat.lt_trichotomy n n' with z | z | z
  · have := (c n (by omega)).1; omega
  · exact z
  · have := (c n' (by omega)).1; omega
/-- a name is a good one -/
theorem pw_ok (h1 : 1 ≤ n) (hn : n ≤ 6) (h : ∀ k, k < n → 97 ≤ f k ∧ f k ≤ 122) : nmOk (pkW f n) := by
  have hd : ∀ k, k < 6 → dgt (pkW f n) k = if k < n then f k - 96 else 0 := fun k hk => pw_dig hn (fun k hk => by have := h k hk; omega) hk
  have hl := pw_lt hn (f := f) (fun k hk => by have := h k hk; omega)
  refine ⟨hl, fun e => ?_, fun k hk => ?_, fun k hk e => ?_⟩
  · have h0 := hd 0 (by decide)
    have h2 := h 0 (by omega)
    rw [if_pos (by omega)] at h0
    have e0 : dgt (pkW f n) 0 = pkW f n / 2 ^ 25 % 32 := rfl
    rw [e0, e] at h0
    omega
  · have := hd k hk
    show dgt (pkW f n) k ≤ 26
    rw [this]
    split
    · have := h k (by assumption); omega
    · omega
  · have e1 : dgt (pkW f n) k = 0 := e
    show dgt (pkW f n) (k + 1) = 0
    rw [hd k (by omega)] at e1
    rw [hd (k + 1) (by omega), if_neg]
    intro c
    rw [if_pos (by omega)] at e1
    have := h k (by omega)
    omega
/-- and its other number -/
theorem hD_c {d d' : Nat → Nat} : ∀ m, (∀ k, k < m → d k = d' k) → hD d m = hD d' m
  | 0, _ => rfl
  | m + 1, h => by rw [hD, hD, hD_c m (fun k hk => h k (by omega)), h m (by omega)]
theorem hD_inj {d d' : Nat → Nat} : ∀ m m', (∀ k, k < m → 1 ≤ d k ∧ d k ≤ 26) → (∀ k, k < m' → 1 ≤ d' k ∧ d' k ≤ 26) → hD d m = hD d' m' → m = m' ∧ ∀ k, k < m → d k = d' k
  | 0, 0, _, _, _ => ⟨rfl, fun k hk => absurd hk (Nat.not_lt_zero _)⟩
  | 0, m' + 1, _, h', e => by
    have := h' m' (by omega)
    have e : 0 = 27 * hD d' m' + d' m' := e
    omega
  | m + 1, 0, h, _, e => by
    have := h m (by omega)
    have e : 27 * hD d m + d m = 0 := e
    omega
  | m + 1, m' + 1, h, h', e => by
    have h1 := h m (by omega)
    have h2 := h' m' (by omega)
    have e : 27 * hD d m + d m = 27 * hD d' m' + d' m' := e
    obtain ⟨i1, i2⟩ := hD_inj m m' (fun k hk => h k (by omega)) (fun k hk => h' k (by omega)) (by omega)
    subst i1
    refine ⟨rfl, fun k hk => ?_⟩
    by_cases c : k = m
    · rw [c]
      omega
    · exact i2 k (by omega)
theorem dgt_eq {v w : Nat} (hv : v < 2 ^ 30) (hw : w < 2 ^ 30) (h : ∀ k, k < 6 → dgt v k = dgt w k) : v = w := by
  have h0 : v / 2 ^ 25 % 32 = w / 2 ^ 25 % 32 := h 0 (by decide)
  have h1 : v / 2 ^ 20 % 32 = w / 2 ^ 20 % 32 := h 1 (by decide)
  have h2 : v / 2 ^ 15 % 32 = w / 2 ^ 15 % 32 := h 2 (by decide)
  have h3 : v / 2 ^ 10 % 32 = w / 2 ^ 10 % 32 := h 3 (by decide)
  have h4 : v / 2 ^ 5 % 32 = w / 2 ^ 5 % 32 := h 4 (by decide)
  have h5 : v / 2 ^ 0 % 32 = w / 2 ^ 0 % 32 := h 5 (by decide)
  omega
theorem mNa_inj {v w : Nat} (hv : nmOk v) (hw : nmOk w) (e : mNa v = mNa w) : v = w := by
  obtain ⟨m, a1, a2, a3, a4, a5⟩ := mNa_is hv
  obtain ⟨m', b1, b2, b3, b4, b5⟩ := mNa_is hw
  rw [a5, b5] at e
  obtain ⟨e1, e2⟩ := hD_inj m m' a3 b3 e
  refine dgt_eq hv.1 hw.1 (fun k hk => ?_)
  by_cases c : k < m
  · exact e2 k c
  · rw [a4 k (by omega) hk, b4 k (by omega) hk]
theorem mNa_pk (h1 : 1 ≤ n) (hn : n ≤ 6) (h : ∀ k, k < n → 97 ≤ f k ∧ f k ≤ 122) : mNa (pkW f n) = hD (fun k => f k - 96) n := by
  have hd : ∀ k, k < 6 → dgt (pkW f n) k = if k < n then f k - 96 else 0 := fun k hk => pw_dig hn (fun k hk => by have := h k hk; omega) hk
  obtain ⟨m, a1, a2, a3, a4, a5⟩ := mNa_is (pw_ok h1 hn h)
  have e : m = n := by
    rcases Nat.lt_trichotomy m n with z | z | z
    · have h2 := a4 m (Nat.le_refl _) (by omega)
      rw [hd m (by omega), if_pos z] at h2
      have := h m z
      omega
    · exact z
    · have h2 := a3 n z
      rw [hd n (by omega), if_neg (by omega)] at h2
      omega
  rw [a5, e]
  exact hD_c n (fun k hk => by rw [hd k (by omega), if_pos hk])
end pw
/-- own words -/
theorem own_d : ∀ i, i < 19 → ∀ j, j < 19 → owdN i = owdN j → i = j := by decide +kernel
theorem own_l : ∀ w, w < 19 → m_wl w ≤ 6 ∧ 2 ≤ m_wl w ∧ owdN w < 2 ^ 30 ∧ ∀ k, k < m_wl w → 97 ≤ (wdL w).getD k 0 ∧ (wdL w).getD k 0 ≤ 122 := by decide +kernel
theorem own_c : ∀ w, w < 19 → ∀ k, k < m_wl w → m_wf w k = nI ((wdL w).getD k 0) := by decide +kernel
theorem wi_n {v : Nat} : ∀ n, (∀ i, i < n → ¬ owdN i = v) → wiF v n = 99
  | 0, _ => rfl
  | n + 1, h => by rw [wiF, if_neg (h n (by omega)), wi_n n (fun i hi => h i (by omega))]
theorem wi_s {v w : Nat} : ∀ n, n ≤ 19 → w < n → owdN w = v → wiF v n = w
  | 0, _, h, _ => absurd h (Nat.not_lt_zero _)
  | n + 1, hn, h, e => by
    rw [wiF]
    by_cases c : owdN n = v
    · rw [if_pos c]; exact own_d n (by omega) w (by omega) (c.trans e.symm)
    · rw [if_neg c]
      refine wi_s n (by omega) ?_ e
      rcases Nat.lt_or_ge w n with z | z
      · exact z
      · exact absurd (by rw [show n = w by omega]; exact e) c
theorem wi_i {v : Nat} : ∀ n, wiF v n = 99 ∨ (wiF v n < n ∧ owdN (wiF v n) = v)
  | 0 => Or.inl rfl
  | n + 1 => by
    rw [wiF]
    by_cases c : owdN n = v
    · rw [if_pos c]; exact Or.inr ⟨by omega, c⟩
    · rw [if_neg c]
      rcases wi_i (v := v) n with z | z
      · exact Or.inl z
      · exact Or.inr ⟨by omega, z.2⟩
section ow
variable {tp : Nat × (Nat → Nat)} {p w : Nat} {g : Bool}
theorem eT_l (h : lB tp p = true) : eT tp p = enF (lB tp) p := if_pos h
theorem vT_l (h : lB tp (sT tp p) = true) : vT tp p = pkW (fun k => tp.2 (sT tp p + k)) (eT tp (sT tp p) - sT tp p) := if_pos h
theorem run_l (h : lB tp p = true) : ∀ k, k < eT tp p - p → 97 ≤ tp.2 (p + k) ∧ tp.2 (p + k) ≤ 122 := fun k hk => by
  rw [eT_l h] at hk
  have h1 : lB tp (p + k) = true := enF_in (p := p) (by omega) (by omega)
  have h2 := lB_i.mp h1
  rw [ch_t (lB_lt h1)] at h2
  exact h2
theorem wT_lt (h : wT tp p g ≠ 99) : wT tp p g < 19 ∧ kT tp p g = 1 ∧ eT tp (sT tp p) - sT tp p ≤ 6 ∧ owdN (wT tp p g) = vT tp p := by
  unfold wT at h ⊢
  split at h
  · rename_i c
    rw [if_pos c]
    rcases wi_i (v := vT tp p) 19 with z | z
    · exact absurd z h
    · exact ⟨z.1, c.1, c.2, z.2⟩
  · exact absurd rfl h
/-- which own word comes, letter by letter -/
theorem wT_is (hw : w < 19) : wT tp p g = w ↔ kT tp p g = 1 ∧ eT tp (sT tp p) - sT tp p = m_wl w ∧ ∀ k, k < m_wl w → tp.2 (sT tp p + k) = (wdL w).getD k 0 := by
  obtain ⟨o1, o2, o3, o4⟩ := own_l w hw
  constructor
  · intro h
    obtain ⟨h1, h2, h3, h4⟩ := wT_lt (tp := tp) (p := p) (g := g) (by omega)
    have hl := (kT_1 h2).1
    rw [h, vT_l hl] at h4
    obtain ⟨e1, e2⟩ := pw_inj o1 h3 o4 (run_l hl) h4
    exact ⟨h2, e1.symm, fun k hk => (e2 k hk).symm⟩
  · intro ⟨h1, h2, h3⟩
    have hl := (kT_1 h1).1
    unfold wT
    rw [if_pos ⟨h1, by omega⟩]
    refine wi_s 19 (Nat.le_refl _) hw ?_
    rw [vT_l hl, h2]
    unfold owdN
    exact pkW_c (fun k hk => (h3 k (by omega)).symm)
end ow
