/-! the class spreads over the net that is laid: level by level -/
def rchm (n net a k : Nat) : Nat := msk (fun b => rs n net a k b) n
def rimm (n net a k : Nat) : Nat := msk (fun b => rs n net a k b && !(decide (0 < k) && rs n net a (k - 1) b)) n
/-- away, as far as level k -/
def awk (n net a k b : Nat) : Int32 := if fa_first (fun j => rs n net a j b) (k + 1) < k + 1 then nI (fa_first (fun j => rs n net a j b) (k + 1)) else -1
theorem awk_0 (n net a b : Nat) : awk n net a 0 b = if b = a then 0 else -1 := by
  unfold awk
  by_cases e : b = a
  · rw [first_is (v := 0) (by omega) (by simp [rs, e]) (fun j hj => absurd hj (Nat.not_lt_zero _)), if_pos (by omega), if_pos e]; rfl
  · rw [first_no (n := 0 + 1) (fun j hj => by
      have : j = 0 := by omega
      subst this; simp [rs, e]), if_neg (Nat.lt_irrefl _), if_neg e]
theorem first_ext {p : Nat → Bool} {n : Nat} (h : fa_first p n < n) : fa_first p (n + 1) = fa_first p n := by rw [fa_first, if_pos h]
theorem rs_no {n net a k b : Nat} (h : rs n net a k b = false) : ∀ j, j ≤ k → rs n net a j b = false := fun j hj => by
  cases hr : rs n net a j b with
  | false => rfl
  | true => rw [rs_le hj hr] at h; exact h
theorem rs_ff {n net a k b : Nat} : fa_first (fun j => rs n net a j b) (k + 1) < k + 1 ↔ rs n net a k b = true := by
  constructor
  · intro h
    exact rs_le (by omega) (fa_first_yes _ _ h)
  · intro h
    rcases Nat.lt_or_ge (fa_first (fun j => rs n net a j b) (k + 1)) (k + 1) with g | g
    · exact g
    · have := fa_first_no (fun j => rs n net a j b) (k + 1) k (by omega)
      have h2 : rs n net a k b = false := this
      rw [h] at h2; exact absurd h2 (by decide)
/-- at the next level -/
theorem awk_s {n net a k b : Nat} : awk n net a (k + 1) b = if (rs n net a (k + 1) b && !rs n net a k b) = true then nI (k + 1) else awk n net a k b := by
  cases h : rs n net a k b with
  | true =>
    have g := rs_ff.mpr h
    unfold awk
    rw [first_ext g, if_pos (by omega), if_pos g]
    simp
  | false =>
    have g := (not_congr (rs_ff (n := n) (net := net) (a := a) (k := k) (b := b))).mpr (by rw [h]; decide)
    cases h2 : rs n net a (k + 1) b with
    | true =>
      have : fa_first (fun j => rs n net a j b) (k + 1 + 1) = k + 1 := first_is (by omega) h2 (fun j hj => rs_no h j (by omega))
      unfold awk
      rw [this, if_pos (by omega)]
      simp
    | false =>
      have g2 := (not_congr (rs_ff (n := n) (net := net) (a := a) (k := k + 1) (b := b))).mpr (by rw [h2]; decide)
      unfold awk
      rw [if_neg g, if_neg g2]
      simp
theorem awk_dv {n net a b : Nat} (hn : 0 < n) : awk n net a (n - 1) b = dv n net a b := by
  unfold awk dv ds
  rw [show n - 1 + 1 = n by omega]
theorem awk_fix {n net a k b : Nat} (hb : b < n) (hk : k + 1 ≤ n) (h : ∀ b, b < n → rs n net a (k + 1) b = rs n net a k b) : awk n net a k b = dv n net a b := by
  have hj := rs_fix h (n - 1 - k) b hb
  rw [show k + (n - 1 - k) = n - 1 by omega] at hj
  unfold awk dv ds
  cases hr : rs n net a k b with
  | true =>
    have g := rs_ff.mpr hr
    have e : fa_first (fun j => rs n net a j b) n = fa_first (fun j => rs n net a j b) (k + 1) := first_is (by omega) (fa_first_yes _ _ g) (fun j h => fa_first_no _ _ j h)
    rw [e, if_pos g, if_pos (by omega)]
  | false =>
    have g := (not_congr (rs_ff (n := n) (net := net) (a := a) (k := k) (b := b))).mpr (by rw [hr]; decide)
    have e : fa_first (fun j => rs n net a j b) n = n := first_no (fun j hj2 => rs_no (k := n - 1) (by rw [hj, hr]) j (by omega))
    rw [e, if_neg g, if_neg (Nat.lt_irrefl _)]
/-- all who are near one of the first p of a set -/
def nxt (net M p : Nat) : Nat := msk (fun b => (List.range p).any (fun c => M.testBit c && td net c b)) 10
theorem nxt_0 (net M : Nat) : nxt net M 0 = 0 := msk_0.mpr (fun _ _ => rfl)
theorem nxt_lt (net M p : Nat) : nxt net M p < 2 ^ 10 := msk_lt _ _
theorem nxt_s (net M p : Nat) : nxt net M (p + 1) = if M.testBit p = true then nxt net M p ||| nrm net p else nxt net M p := by
  cases h : M.testBit p with
  | true =>
    rw [if_pos rfl]
    apply bit_ext
    intro b
    rw [Nat.testBit_or, nxt, nxt, nrm, msk_bit, msk_bit, msk_bit, List.range_succ, List.any_append]
    simp only [List.any_cons, List.any_nil, h, Bool.true_and, Bool.or_false]
    cases decide (b < 10) <;> simp
  | false =>
    rw [if_neg (by decide)]
    apply bit_ext
    intro b
    rw [nxt, nxt, msk_bit, msk_bit, List.range_succ, List.any_append]
    simp only [List.any_cons, List.any_nil, h, Bool.false_and, Bool.or_false]
theorem rimm_b (n net a k c : Nat) : (rimm n net a k).testBit c = (decide (c < n) && (rs n net a k c && !(decide (0 < k) && rs n net a (k - 1) c))) := msk_bit _ _ _
theorem rchm_b (n net a k c : Nat) : (rchm n net a k).testBit c = (decide (c < n) && rs n net a k c) := msk_bit _ _ _
/-- the next rim: all who are near the rim and were not reached -/
theorem rim_s {n net a k : Nat} (hn : n ≤ 10) (hlt : ∀ c b, td net c b = true → b < n) : bdf (nxt net (rimm n net a k) n) (rchm n net a k) = rimm n net a (k + 1) := by
  apply bit_ext
  intro b
  rw [bdf_bit, nxt, msk_bit, rimm_b n net a (k + 1) b, rchm_b]
  by_cases hb : b < n
  · have hb10 : b < 10 := by omega
    simp only [hb, hb10, decide_true, Bool.true_and, Nat.succ_pos, Nat.add_sub_cancel]
    cases h1 : rs n net a k b with
    | true => simp
    | false =>
      simp only [Bool.not_false, Bool.and_true]
      apply Bool.eq_iff_iff.mpr
      constructor
      · intro h
        obtain ⟨c, h3, h4⟩ := List.any_eq_true.mp h
        rw [Bool.and_eq_true, rimm_b, Bool.and_eq_true, Bool.and_eq_true] at h4
        exact rs_s.mpr (Or.inr ⟨c, List.mem_range.mp h3, h4.1.2.1, h4.2⟩)
      · intro h
        rcases rs_s.mp h with h2 | ⟨c, h2, h3, h4⟩
        · rw [h1] at h2; exact absurd h2 (by decide)
        · refine List.any_eq_true.mpr ⟨c, List.mem_range.mpr h2, ?_⟩
          rw [Bool.and_eq_true, rimm_b, Bool.and_eq_true, Bool.and_eq_true]
          refine ⟨⟨by simp [h2], h3, ?_⟩, h4⟩
          cases k with
          | zero => simp
          | succ k =>
            cases hc : rs n net a k c with
            | false => simp [hc]
            | true =>
              have : rs n net a (k + 1) b = true := rs_s.mpr (Or.inr ⟨c, h2, hc, h4⟩)
              rw [this] at h1; exact absurd h1 (by decide)
  · have : (List.range n).any (fun c => (rimm n net a k).testBit c && td net c b) = false := by
      apply Bool.eq_false_iff.mpr
      intro h
      obtain ⟨c, h3, h4⟩ := List.any_eq_true.mp h
      rw [Bool.and_eq_true] at h4
      exact hb (hlt c b h4.2)
    rw [this]
    simp [hb]
theorem rch_s {n net a k : Nat} : rchm n net a k ||| rimm n net a (k + 1) = rchm n net a (k + 1) := by
  apply bit_ext
  intro b
  rw [Nat.testBit_or, rchm, rchm, rimm, msk_bit, msk_bit, msk_bit]
  by_cases hb : b < n
  · simp only [hb, decide_true, Bool.true_and, Nat.succ_pos, Nat.add_sub_cancel]
    cases h : rs n net a k b with
    | true => simp [rs_s.mpr (Or.inl h)]
    | false => simp
  · simp [hb]
theorem rchm_lt (n net a k : Nat) : rchm n net a k < 2 ^ n := msk_lt _ _
theorem rimm_lt (n net a k : Nat) : rimm n net a k < 2 ^ n := msk_lt _ _
theorem rimm_bit {n net a k b : Nat} (hb : b < n) : (rimm n net a (k + 1)).testBit b = (rs n net a (k + 1) b && !rs n net a k b) := by
  rw [rimm, msk_bit]
  simp [hb]
theorem p2le {n : Nat} (h : n ≤ 10) : 2 ^ n ≤ 1024 := Nat.pow_le_pow_right (n := 2) (by decide) h
theorem x_sp118 {N n net a k : Nat} {σ : zSt} {Q : zSt → Prop} {k47 : Int32 → Int32 → Int32 → Int32 → zSt → Prop} (hN : 50 < N) (hn : n ≤ 10) (R : Int32) (hk : ∀ τ, fr [] [] [29] [] σ τ → (∀ b, b < n → τ.2.2.1 29 b = awk n net a (k + 1) b) → k47 (nI n) R (nI (rimm n net a (k + 1))) (nI (k + 1 + 1)) τ) (τ : zSt) (h1 : fr [] [] [29] [] σ τ) (h2 : ∀ b, b < n → τ.2.2.1 29 b = awk n net a k b) : w_X10_spread_118 N k47 Q N (nI n) R (nI (rimm n net a (k + 1))) (nI (k + 1)) 0 τ := by
  have hr := rimm_lt n net a (k + 1)
  have hp := p2le hn
  refine loopU (S := zSt) (fun f p τ => w_X10_spread_118 N k47 Q f (nI n) R (nI (rimm n net a (k + 1))) (nI (k + 1)) (nI p) τ) (fun p τ => fr [] [] [29] [] σ τ ∧ ∀ b, b < n → τ.2.2.1 29 b = if b < p then awk n net a (k + 1) b else awk n net a k b) n ?_ ?_ N 0 τ (Nat.zero_le _) (by omega) ⟨h1, fun b hb => by rw [if_neg (Nat.not_lt_zero _)]; exact h2 b hb⟩
  · intro f τ ⟨h1, h2⟩
    show b_X10_spread_118 N k47 (w_X10_spread_118 N k47 Q f) Q (nI n) R (nI (rimm n net a (k + 1))) (nI (k + 1)) (nI n) τ
    unfold b_X10_spread_118
    refine br_t (nI_le (Nat.le_refl _) (by omega)) (fun v e => ?_)
    rw [e, nI_1]
    exact hk τ h1 (fun b hb => by rw [h2 b hb, if_pos hb])
  · intro f p τ hp2 ⟨h1, h2⟩ ih
    show b_X10_spread_118 N k47 (w_X10_spread_118 N k47 Q f) Q (nI n) R (nI (rimm n net a (k + 1))) (nI (k + 1)) (nI p) τ
    unfold b_X10_spread_118
    have hpp := h2 p hp2
    rw [if_neg (Nat.lt_irrefl _)] at hpp
    have key : ∀ v : Int32, v = awk n net a (k + 1) p → ∀ b, b < n → (zA τ 29 (upd (τ.2.2.1 29) p v)).2.2.1 29 b = if b < p + 1 then awk n net a (k + 1) b else awk n net a k b := by
      intro v hv b hb
      rw [zA_3s]
      by_cases e : b = p
      · subst e; rw [pk_us, if_pos (by omega), hv]
      · rw [pk_un e, h2 b hb]
        by_cases g : b < p
        · rw [if_pos g, if_pos (by omega)]
        · rw [if_neg g, if_neg (by omega)]
    have hs := awk_s (n := n) (net := net) (a := a) (k := k) (b := p)
    have hbit := rimm_bit (n := n) (net := net) (a := a) (k := k) hp2
    rw [← hbit] at hs
    simp (disch := omega) only [forall_eq, true_and, and_true, lg_cmp_ge, lg_cmp_le, lg_cmp_gt, lg_cmp_lt, lg_cmp_eq, zI_1s, zI_1n, zI_2, zJ_1, zJ_2s, zJ_2n, zJ_3, zA_1, zA_2, zA_3s, zA_3n, zA_4, zB_1, zB_2, zB_3, zB_4s, zB_4n, nI_leI, nI_ltI, nI_eq, nI_add, nI_clamp, vpi, pk_us, pk_un, pk_uLs, pk_uLn, bitI, bitJ, oneI, oneJ, fa_or, fb_orL, lgz_ge, lgz_le, lgz_gt, lgz_lt, lgz_eq, li_0, li_1, li_2, li_3, li_4, li_5, li_6, li_7, li_8, li_9, li_10, li_11, li_12, li_13, li_14, li_15, li_16, li_17, li_18, li_19, li_20, li_21, li_22, li_23, li_24, li_25, li_26, li_30, li_31, li_32, li_39, li_40, li_45, li_64, li_99, li_100, li_120, li_127, li_200, li_201, li_255, li_256, li_512, li_780, li_800, li_801, li_900, li_999, li_1000, li_1024, li_8191, li_8192]
    refine ⟨fun h => absurd h (by omega), fun _ => ⟨fun hb => ?_, fun hb => ?_⟩⟩
    · rw [hb] at hs
      repeat (refine ⟨by omega, ?_⟩)
      exact ih _ ⟨fr_A h1 (by decide), key _ (hpp.trans (hs.trans (if_neg (by decide))).symm)⟩
    · have hb : (rimm n net a (k + 1)).testBit p = true := by simpa using hb
      rw [hb] at hs
      repeat (refine ⟨by omega, ?_⟩)
      exact ih _ ⟨fr_A h1 (by decide), key _ (hs.trans (if_pos rfl)).symm⟩
theorem x_sp64 {N n net a k : Nat} {σ : zSt} {Q : zSt → Prop} {k47 : Int32 → Int32 → Int32 → Int32 → zSt → Prop} (hN : 50 < N) (hn : n ≤ 10) (hlt : ∀ c b, td net c b = true → b < n) (hk : ∀ τ, fr [] [] [29] [] σ τ → (∀ b, b < n → τ.2.2.1 29 b = awk n net a (k + 1) b) → k47 (nI n) (nI (rchm n net a (k + 1))) (nI (rimm n net a (k + 1))) (nI (k + 1 + 1)) τ) (τ : zSt) (h0 : ∀ q, q < 10 → τ.2.2.1 28 q = nI (nrm net q)) (h1 : fr [] [] [29] [] σ τ) (h2 : ∀ b, b < n → τ.2.2.1 29 b = awk n net a k b) : w_X10_spread_64 N k47 Q N (nI n) (nI (rchm n net a k)) (nI (rimm n net a k)) (nI (k + 1)) 0 0 τ := by
  have hr := rimm_lt n net a k
  have hp := p2le hn
  have key := loopU (S := Unit) (fun f p _ => w_X10_spread_64 N k47 Q f (nI n) (nI (rchm n net a k)) (nI (rimm n net a k)) (nI (k + 1)) (nI (nxt net (rimm n net a k) p)) (nI p) τ) (fun _ _ => True) n ?_ ?_ N 0 () (Nat.zero_le _) (by omega) trivial
  · rw [nxt_0] at key
    exact key
  · intro f _ _
    show b_X10_spread_64 N k47 (w_X10_spread_64 N k47 Q f) Q (nI n) (nI (rchm n net a k)) (nI (rimm n net a k)) (nI (k + 1)) (nI (nxt net (rimm n net a k) n)) (nI n) τ
    unfold b_X10_spread_64
    refine br_t (nI_le (Nat.le_refl _) (by omega)) (fun v1 e1 v2 e2 => ?_)
    rw [bdfI, rim_s hn hlt] at e1
    rw [e1, fa_or, rch_s] at e2
    rw [e1, e2]
    exact x_sp118 hN hn _ hk τ h1 h2
  · intro f p _ hp2 _ ih
    show b_X10_spread_64 N k47 (w_X10_spread_64 N k47 Q f) Q (nI n) (nI (rchm n net a k)) (nI (rimm n net a k)) (nI (k + 1)) (nI (nxt net (rimm n net a k) p)) (nI p) τ
    unfold b_X10_spread_64
    have hs := nxt_s net (rimm n net a k) p
    have hq := h0 p (by omega)
    have ih := ih () trivial
    simp (disch := omega) only [forall_eq, true_and, and_true, lg_cmp_ge, lg_cmp_le, lg_cmp_gt, lg_cmp_lt, lg_cmp_eq, zI_1s, zI_1n, zI_2, zJ_1, zJ_2s, zJ_2n, zJ_3, zA_1, zA_2, zA_3s, zA_3n, zA_4, zB_1, zB_2, zB_3, zB_4s, zB_4n, nI_leI, nI_ltI, nI_eq, nI_add, nI_clamp, vpi, pk_us, pk_un, pk_uLs, pk_uLn, bitI, bitJ, oneI, oneJ, fa_or, fb_orL, lgz_ge, lgz_le, lgz_gt, lgz_lt, lgz_eq, li_0, li_1, li_2, li_3, li_4, li_5, li_6, li_7, li_8, li_9, li_10, li_11, li_12, li_13, li_14, li_15, li_16, li_17, li_18, li_19, li_20, li_21, li_22, li_23, li_24, li_25, li_26, li_30, li_31, li_32, li_39, li_40, li_45, li_64, li_99, li_100, li_120, li_127, li_200, li_201, li_255, li_256, li_512, li_780, li_800, li_801, li_900, li_999, li_1000, li_1024, li_8191, li_8192, hq, Nat.or_zero]
    refine ⟨fun h => absurd h (by omega), fun _ => ⟨fun hb => ?_, fun hb => ?_⟩⟩
    · rw [hb] at hs
      rw [hs] at ih
      exact ih
    · have hb : (rimm n net a k).testBit p = true := by simpa using hb
      rw [hb] at hs
      rw [hs] at ih
      repeat (refine ⟨by omega, ?_⟩)
      exact ih
theorem x_sp47 {N n net a : Nat} {σ : zSt} {Q : zSt → Prop} (hN : 50 < N) (hn : n ≤ 10) (ha : a < n) (hlt : ∀ c b, td net c b = true → b < n) (h0 : ∀ q, q < 10 → σ.2.2.1 28 q = nI (nrm net q)) (hQ : ∀ τ, fr [] [] [29] [] σ τ → (∀ b, b < n → τ.2.2.1 29 b = dv n net a b) → Q τ) (τ : zSt) (h1 : fr [] [] [29] [] σ τ) (h2 : ∀ b, b < n → τ.2.2.1 29 b = awk n net a 0 b) : w_X10_spread_47 N Q N (nI n) (nI (rchm n net a 0)) (nI (rimm n net a 0)) 1 τ := by
  have hp := p2le hn
  refine loopU (S := zSt) (fun f k τ => w_X10_spread_47 N Q f (nI n) (nI (rchm n net a k)) (nI (rimm n net a k)) (nI (k + 1)) τ) (fun k τ => fr [] [] [29] [] σ τ ∧ ∀ b, b < n → τ.2.2.1 29 b = awk n net a k b) (n - 1) ?_ ?_ N 0 τ (Nat.zero_le _) (by omega) ⟨h1, h2⟩
  · intro f τ ⟨h1, h2⟩
    show b_X10_spread_47 N (w_X10_spread_47 N Q f) Q (nI n) (nI (rchm n net a (n - 1))) (nI (rimm n net a (n - 1))) (nI (n - 1 + 1)) τ
    unfold b_X10_spread_47
    rw [show n - 1 + 1 = n by omega]
    exact br_t (nI_le (Nat.le_refl _) (by omega)) (hQ τ h1 (fun b hb => by rw [h2 b hb, awk_dv (by omega)]))
  · intro f k τ hk ⟨h1, h2⟩ ih
    show b_X10_spread_47 N (w_X10_spread_47 N Q f) Q (nI n) (nI (rchm n net a k)) (nI (rimm n net a k)) (nI (k + 1)) τ
    unfold b_X10_spread_47
    have hr := rimm_lt n net a k
    refine br_f (nI_ge (by omega) (by omega)) ⟨fun e => ?_, fun _ => ?_⟩
    · have e : rimm n net a k = 0 := (nI_eq (b := 0) (by omega) (by omega)).mp e
      have e := msk_0.mp e
      refine hQ τ h1 (fun b hb => ?_)
      rw [h2 b hb]
      refine awk_fix hb (by omega) ?_
      cases k with
      | zero =>
        have := e a ha
        simp [rs] at this
      | succ k =>
        have hfix : ∀ b, b < n → rs n net a (k + 1) b = rs n net a k b := fun b hb => by
          have h3 := e b hb
          cases h4 : rs n net a k b with
          | true => exact rs_s.mpr (Or.inl h4)
          | false => simpa [h4] using h3
        intro b hb
        have h5 := rs_fix hfix 2 b hb
        rw [hfix b hb, ← h5]
    · exact x_sp64 hN hn hlt (fun τ h1 h2 => ih τ ⟨h1, h2⟩) τ (fun q hq => (congrFun (h1.2.2.1 28 (by decide)) q).trans (h0 q hq)) h1 h2
theorem rch_0 {n net a : Nat} (ha : a < n) : rchm n net a 0 = 2 ^ a ∧ rimm n net a 0 = 2 ^ a := by
  constructor
  · apply bit_ext
    intro b
    rw [rchm, msk_bit, Nat.testBit_two_pow]
    by_cases e : a = b
    · subst e; simp [rs, ha]
    · have : ¬ b = a := fun q => e q.symm
      simp [rs, e, this]
  · apply bit_ext
    intro b
    rw [rimm, msk_bit, Nat.testBit_two_pow]
    by_cases e : a = b
    · subst e; simp [rs, ha]
    · have : ¬ b = a := fun q => e q.symm
      simp [rs, e, this]
theorem x_spread {N n net a : Nat} {σ : zSt} {Q : zSt → Prop} (hN : 50 < N) (hn : n ≤ 10) (ha : a < n) (hp : σ.1 1 = nI n) (hlt : ∀ c b, td net c b = true → b < n) (h0 : ∀ q, q < 10 → σ.2.2.1 28 q = nI (nrm net q)) (hQ : ∀ τ, fr [] [] [29] [] σ τ → (∀ b, b < n → τ.2.2.1 29 b = dv n net a b) → Q τ) : w_X10_spread N (nI a) σ Q := by
  unfold w_X10_spread
  intro v1 e1
  rw [e1, hp]
  refine loopU (S := zSt) (fun f p τ => w_X10_spread_10 N Q f (nI a) (nI n) (nI p) τ) (fun p τ => fr [] [] [29] [] σ τ ∧ ∀ b, b < p → τ.2.2.1 29 b = awk n net a 0 b) n ?_ ?_ N 0 σ (Nat.zero_le _) (by omega) ⟨fr_r, fun b hb => absurd hb (Nat.not_lt_zero _)⟩
  · intro f τ ⟨h1, h2⟩
    show b_X10_spread_10 N (w_X10_spread_10 N Q f) Q (nI a) (nI n) (nI n) τ
    unfold b_X10_spread_10
    refine br_t (nI_le (Nat.le_refl _) (by omega)) (fun v1 e1 => ?_)
    have e1 : v1 = nI (2 ^ a) := by rw [e1]; exact oneI (by omega)
    have hr := rch_0 (net := net) ha
    have := x_sp47 hN hn ha hlt h0 hQ τ h1 h2
    rw [hr.1, hr.2, ← e1] at this
    exact this
  · intro f p τ hp2 ⟨h1, h2⟩ ih
    show b_X10_spread_10 N (w_X10_spread_10 N Q f) Q (nI a) (nI n) (nI p) τ
    unfold b_X10_spread_10
    have key : ∀ v : Int32, v = awk n net a 0 p → ∀ b, b < p + 1 → (zA τ 29 (upd (τ.2.2.1 29) p v)).2.2.1 29 b = awk n net a 0 b := by
      intro v hv b hb
      rw [zA_3s]
      by_cases e : b = p
      · subst e; rw [pk_us, hv]
      · rw [pk_un e, h2 b (by omega)]
    simp (disch := omega) only [forall_eq, true_and, and_true, lg_cmp_ge, lg_cmp_le, lg_cmp_gt, lg_cmp_lt, lg_cmp_eq, zI_1s, zI_1n, zI_2, zJ_1, zJ_2s, zJ_2n, zJ_3, zA_1, zA_2, zA_3s, zA_3n, zA_4, zB_1, zB_2, zB_3, zB_4s, zB_4n, nI_leI, nI_ltI, nI_eq, nI_add, nI_clamp, vpi, pk_us, pk_un, pk_uLs, pk_uLn, bitI, bitJ, oneI, oneJ, fa_or, fb_orL, lgz_ge, lgz_le, lgz_gt, lgz_lt, lgz_eq, li_0, li_1, li_2, li_3, li_4, li_5, li_6, li_7, li_8, li_9, li_10, li_11, li_12, li_13, li_14, li_15, li_16, li_17, li_18, li_19, li_20, li_21, li_22, li_23, li_24, li_25, li_26, li_30, li_31, li_32, li_39, li_40, li_45, li_64, li_99, li_100, li_120, li_127, li_200, li_201, li_255, li_256, li_512, li_780, li_800, li_801, li_900, li_999, li_1000, li_1024, li_8191, li_8192]
    refine ⟨fun h => absurd h (by omega), fun _ => ⟨fun hb => ?_, fun hb => ?_⟩⟩
    · repeat (refine ⟨by omega, ?_⟩)
      exact ih _ ⟨fr_A h1 (by decide), key _ ((awk_0 n net a p).trans (if_pos hb)).symm⟩
    · repeat (refine ⟨by omega, ?_⟩)
      exact ih _ ⟨fr_A h1 (by decide), key _ ((awk_0 n net a p).trans (if_neg hb)).symm⟩
