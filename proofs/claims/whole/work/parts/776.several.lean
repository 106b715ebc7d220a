/-! several ties cut at once: sets of a person's ties, one after another -/
theorem bdf_half (a y : Nat) : bdf a y / 2 = bdf (a / 2) (y / 2) := by
  apply bit_ext
  intro j
  have h : ∀ x : Nat, (x / 2).testBit j = x.testBit (j + 1) := fun x => by
    have this : (x / 2 ^ 1).testBit j = x.testBit (j + 1) := Nat.testBit_div_two_pow x j
    exact this
  rw [h, bdf_bit, bdf_bit, h, h]
theorem and_half (a y : Nat) : (a &&& y) / 2 = (a / 2) &&& (y / 2) := by
  apply bit_ext
  intro j
  have h : ∀ x : Nat, (x / 2).testBit j = x.testBit (j + 1) := fun x => by
    have this : (x / 2 ^ 1).testBit j = x.testBit (j + 1) := Nat.testBit_div_two_pow x j
    exact this
  rw [h, Nat.testBit_and, Nat.testBit_and, h, h]
theorem bit0 (x : Nat) : x % 2 = if x.testBit 0 = true then 1 else 0 := by
  rw [Nat.testBit_zero]
  rcases Nat.mod_two_eq_zero_or_one x with h | h <;> simp [h]
theorem and_bdf (a y : Nat) : (a &&& y) + bdf a y = a := by
  induction a using Nat.strongRecOn generalizing y with
  | ind a ih =>
    by_cases h0 : a = 0
    · subst h0; simp [bdf]
    · have h1 := ih (a / 2) (by omega) (y / 2)
      rw [← bdf_half, ← and_half] at h1
      have m1 := bit0 (a &&& y)
      have m2 := bit0 (bdf a y)
      have m3 := bit0 a
      rw [Nat.testBit_and] at m1
      rw [bdf_bit] at m2
      have m4 : (a &&& y) % 2 + bdf a y % 2 = a % 2 := by
        rw [m1, m2, m3]
        cases a.testBit 0 <;> cases y.testBit 0 <;> rfl
      omega
/-- the next greater set of pairs that lie in own -/
def nxs (own c : Nat) : Nat := (2 ^ 64 - (own - c)) &&& own
theorem nxs_J {own c : Nat} (hc : c ≤ own) (ho : own < 2 ^ 45) : (lN c - lN own) &&& lN own = lN (nxs own c) := by
  have e1 : lN c = lN (2 ^ 64 + c) := by
    rw [wb_mod (2 ^ 64 + c), wb_mod c]
    congr 1
    omega
  rw [e1, lN_sub (by omega), fb_andL, show 2 ^ 64 + c - own = 2 ^ 64 - (own - c) by omega]
  rfl
theorem nxs_sub (own c : Nat) : bdf (nxs own c) own = 0 := bdf_0.mpr (fun j h => by
  rw [nxs, Nat.testBit_and, Bool.and_eq_true] at h
  exact h.2)
theorem nxs_own (own : Nat) (h : own < 2 ^ 45) : nxs own own = 0 := by
  unfold nxs
  rw [Nat.sub_self, Nat.sub_zero]
  apply bit_ext
  intro j
  rw [Nat.testBit_and, Nat.testBit_two_pow, Nat.zero_testBit]
  by_cases hj : 64 = j
  · subst hj; rw [bit_hi h (by omega)]; simp
  · simp [hj]
theorem nxs_gt {own c : Nat} (ho : own < 2 ^ 45) (hc : c < own) : c < nxs own c := by
  have e : nxs own c = bdf own (own - c - 1) := by
    apply bit_ext
    intro j
    rw [nxs, Nat.testBit_and, bdf_bit, show 2 ^ 64 - (own - c) = 2 ^ 64 - ((own - c - 1) + 1) by omega, Nat.testBit_two_pow_sub_succ (by omega)]
    cases hj : own.testBit j with
    | false => simp
    | true =>
      have : j < 64 := by
        rcases Nat.lt_or_ge j 64 with g | g
        · exact g
        · rw [bit_hi ho (by omega)] at hj; exact absurd hj (by decide)
      simp [this]
  have h1 := and_bdf own (own - c - 1)
  have h2 : own &&& (own - c - 1) ≤ own - c - 1 := Nat.and_le_right
  omega
/-- how many sets of pairs lie in own and are greater -/
def gtr (own c : Nat) : Nat := fb_ct (fun x => decide (bdf x own = 0) && decide (c < x)) (2 ^ 45)
theorem gtr_lt {own c d : Nat} (h : c < d) (hd : bdf d own = 0) (hl : d < 2 ^ 45) : gtr own d < gtr own c := by
  refine ct_grow (fun x _ hx => ?_) ⟨d, hl, ?_, ?_⟩
  · rw [Bool.and_eq_true, decide_eq_true_eq, decide_eq_true_eq] at hx ⊢
    exact ⟨hx.1, by omega⟩
  · rw [decide_eq_true hd, decide_eq_true h]; rfl
  · rw [decide_eq_false (Nat.lt_irrefl d), Bool.and_false]
theorem sub_ct (own : Nat) : ∀ m, fb_ct (fun x => decide (bdf x own = 0)) (2 ^ m) = 2 ^ fb_ct (fun j => own.testBit j) m
  | 0 => by
    show fb_ct (fun x => decide (bdf x own = 0)) 1 = 1
    rw [fb_ct_succ]
    have : bdf 0 own = 0 := bdf_0.mpr (fun j h => by rw [Nat.zero_testBit] at h; exact absurd h (by decide))
    rw [decide_eq_true this]; rfl
  | m + 1 => by
    have ih := sub_ct own m
    rw [Nat.pow_succ, Nat.mul_two, fb_ct_split, ih, fb_ct_succ]
    have hx : ∀ x, x < 2 ^ m → (decide (bdf (2 ^ m + x) own = 0)) = (own.testBit m && decide (bdf x own = 0)) := by
      intro x hx
      have hb : ∀ j, (2 ^ m + x).testBit j = (decide (m = j) || x.testBit j) := fun j => by
        have : 2 ^ m + x = 2 ^ m ||| x := by
          have := Nat.two_pow_add_eq_or_of_lt hx 1
          rw [Nat.mul_one] at this
          exact this
        rw [this, Nat.testBit_or, Nat.testBit_two_pow]
      apply Bool.eq_iff_iff.mpr
      rw [Bool.and_eq_true, decide_eq_true_eq, decide_eq_true_eq, bdf_0, bdf_0]
      constructor
      · intro h
        refine ⟨h m (by rw [hb]; simp), fun j hj => h j (by rw [hb, hj]; simp)⟩
      · intro ⟨h1, h2⟩ j hj
        rw [hb, Bool.or_eq_true, decide_eq_true_eq] at hj
        rcases hj with g | g
        · subst g; exact h1
        · exact h2 j g
    rw [fb_ct_cong hx]
    cases hm : own.testBit m with
    | true =>
      simp only [Bool.true_and, if_true]
      rw [ih, Nat.pow_succ, Nat.mul_two]
    | false =>
      have : fb_ct (fun k => false && decide (bdf k own = 0)) (2 ^ m) = 0 := fb_ct_zero.mpr (fun k _ => rfl)
      rw [this]; simp
theorem gtr_0 {own : Nat} (h : fb_ct (fun j => own.testBit j) 45 ≤ 9) : gtr own 0 ≤ 511 := by
  have h1 : gtr own 0 < fb_ct (fun x => decide (bdf x own = 0)) (2 ^ 45) := ct_grow (fun x _ hx => by rw [Bool.and_eq_true] at hx; exact hx.1) ⟨0, by decide, decide_eq_true (bdf_0.mpr (fun j h => by rw [Nat.zero_testBit] at h; exact absurd h (by decide))), by simp⟩
  rw [sub_ct] at h1
  have h2 : 2 ^ fb_ct (fun j => own.testBit j) 45 ≤ 2 ^ 9 := Nat.pow_le_pow_right (by decide) h
  omega
def sevB (l : zL) (e : Nat → Int32) (net p c : Nat) : Bool := decide (2 ≤ pop c) && gnB l e net (bdf net c) p
def sevO (l : zL) (e : Nat → Int32) (net p own : Nat) : Nat → Nat → zO
  | 0, _ => none
  | m + 1, c => if c = 0 then none else if sevB l e net p c = true then some (2, 2 ^ p, bdf net c) else sevO l e net p own m (nxs own c)
def ownN (net p : Nat) : Nat := net &&& stU 45 p
def gsev (l : zL) (e : Nat → Int32) (net p : Nat) : zO := sevO l e net p (ownN net p) 600 (nxs (ownN net p) 0)
theorem own_9 {net p : Nat} (hp : p < 10) : fb_ct (fun j => (ownN net p).testBit j) 45 ≤ 9 := by
  have h1 : fb_ct (fun j => (ownN net p).testBit j) 45 = fb_ct (fun q => td net p q) 10 := by
    rw [← st_ct net p hp]
    refine fb_ct_cong (fun k hk => ?_)
    rw [ownN, Nat.testBit_and, stU_msk, msk_bit]
    simp only [hk, decide_true, Bool.true_and]
    exact Bool.and_comm _ _
  rw [h1]
  rcases Nat.lt_or_ge (fb_ct (fun q => td net p q) 10) 10 with g | g
  · omega
  · have hle := fb_ct_le (fun q => td net p q) 10
    have := fb_ct_all.mp (show fb_ct (fun q => td net p q) 10 = 10 by omega) p hp
    rw [td_n] at this
    exact absurd this (by decide)
theorem own_lt (net p : Nat) : ownN net p < 2 ^ 45 := Nat.and_lt_two_pow _ (by rw [stU_msk]; exact msk_lt _ _)
/-- the loop's state: a set of own, and how far the row of sets still goes -/
def svI (own m c : Nat) : Prop := bdf c own = 0 ∧ (c ≠ 0 → gtr own c + 1 < m)
theorem sv_s {own m c : Nat} (ho : own < 2 ^ 45) (hc : c ≠ 0) (h : svI own (m + 1) c) : svI own m (nxs own c) ∧ c ≤ own ∧ (nxs own c ≠ 0 → gtr own (nxs own c) < gtr own c) := by
  have hle := sub_le_of h.1
  have hm := h.2 hc
  refine ⟨⟨nxs_sub own c, fun hn => ?_⟩, hle, fun hn => ?_⟩
  · have : c < own := by
      rcases Nat.lt_or_ge c own with g | g
      · exact g
      · have : c = own := by omega
        rw [this, nxs_own own ho] at hn; exact absurd rfl hn
    have := gtr_lt (nxs_gt ho this) (nxs_sub own c) (Nat.lt_of_le_of_lt (sub_le_of (nxs_sub own c)) ho)
    omega
  · have : c < own := by
      rcases Nat.lt_or_ge c own with g | g
      · exact g
      · have : c = own := by omega
        rw [this, nxs_own own ho] at hn; exact absurd rfl hn
    exact gtr_lt (nxs_gt ho this) (nxs_sub own c) (Nat.lt_of_le_of_lt (sub_le_of (nxs_sub own c)) ho)
theorem sv_0 {net p : Nat} (hp : p < 10) : svI (ownN net p) 600 (nxs (ownN net p) 0) ∧ (nxs (ownN net p) 0 ≠ 0 → gtr (ownN net p) (nxs (ownN net p) 0) ≤ 510) := by
  have ho := own_lt net p
  have h0 := gtr_0 (own_9 (net := net) hp)
  have key : nxs (ownN net p) 0 ≠ 0 → gtr (ownN net p) (nxs (ownN net p) 0) ≤ 510 := fun hn => by
    have : 0 < ownN net p := by
      rcases Nat.eq_zero_or_pos (ownN net p) with g | g
      · rw [g] at hn
        exact absurd (nxs_own 0 (by decide)) hn
      · exact g
    have := gtr_lt (nxs_gt ho this) (nxs_sub (ownN net p) 0) (Nat.lt_of_le_of_lt (sub_le_of (nxs_sub _ 0)) ho)
    omega
  exact ⟨⟨nxs_sub _ _, fun hn => by have := key hn; omega⟩, key⟩
section xv
variable {N : Nat} {σ : zSt} {l : zL} {e : Nat → Int32} {Q : Int32 → zSt → Prop}
theorem x_sev37 {k2 : Int64 → Int32 → zSt → Prop} {net p own : Nat} {σ0 : zSt} {X : zO} (hN : 801 < N) (hn : net < 2 ^ lPc l) (hp : p < lPn l) (ho : own < 2 ^ 45) (hon : bdf own net = 0) (hno : ∀ τ, xF2 σ0 τ → xG τ l e → X = none → k2 (lN net) (nI (p + 1)) τ) (hyes : ∀ τ, xF2 σ0 τ → xG τ l e → X.isSome = true → xO τ X → Q 1 τ) : ∀ (f m c i : Nat) (σ : zSt), xF2 σ0 σ → xG σ l e → svI own m c → 0 < m → sevO l e net p own m c = X → (c ≠ 0 → gtr own c + i ≤ 510) → i ≤ 512 → m ≤ f → w_X0_firstSeveral_37 N k2 Q f (lN net) (nI p) (lN own) (lN c) (nI i) σ
  | 0, m, c, i, σ, _, _, _, h0, _, _, _, hf => absurd h0 (by omega)
  | f + 1, 0, c, i, σ, _, _, _, h0, _, _, _, hf => absurd h0 (Nat.lt_irrefl _)
  | f + 1, m + 1, c, i, σ, hF, hG, hS, _, hX, hg, hi, hf => by
    have h10 := hG.1.1
    have h45 := net45 h10 hn
    have hpc := pc_le h10
    show b_X0_firstSeveral_37 N k2 (w_X0_firstSeveral_37 N k2 Q f) Q (lN net) (nI p) (lN own) (lN c) (nI i) σ
    unfold b_X0_firstSeveral_37 b_X0_firstSeveral_95
    have e1 : (1 : Int32) <<< (nI p &&& 31) = nI (2 ^ p) := oneI (by omega)
    rw [sevO] at hX
    rw [lg_cmp_eq, bdfJ, e1, nI_1 p]
    by_cases hc : c = 0
    · rw [if_pos hc] at hX
      subst hc
      have := hno σ hF hG hX.symm
      refine ⟨fun _ => nm_e this, fun _ => ⟨fun _ => nm_e this, fun q => absurd rfl q⟩⟩
    · rw [if_neg hc] at hX
      have hg1 := hg hc
      obtain ⟨s1, s2, s3⟩ := sv_s ho hc hS
      have c45 : c < 2 ^ 45 := by omega
      have ctb : bdf net c < 2 ^ lPc l := bdf_lt hn
      have hpos := (hS.2 hc)
      have nx : ∀ υ, xF2 σ0 υ → xG υ l e → sevB l e net p c = false → ∀ v1 : Int64, v1 = (lN c - lN own) &&& lN own → ∀ v2 : Int32, v2 = nI i + 1 → w_X0_firstSeveral_37 N k2 Q f (lN net) (nI p) (lN own) v1 v2 υ := by
        intro υ u0 u1 hs v1 e1 v2 e2
        rw [e1, e2, nxs_J s2 ho, nI_1]
        rw [hs, if_neg (by decide)] at hX
        exact x_sev37 hN hn hp ho hon hno hyes f m (nxs own c) (i + 1) υ u0 u1 s1 (by omega) hX (fun z => by have := s3 z; omega) (by omega) (by omega)
      refine br_f (nI_ge (b := 512) (by omega) (by omega)) (br_f (fun q => hc ((fb_lN_inj (b := 0) (by omega) (by omega)).mp q)) (pcL (by omega) ?_))
      rw [pop_64 c45]
      have hpl : pop c ≤ 45 := fb_ct_le _ _
      refine ⟨fun q => ?_, fun q => ?_⟩
      · have q : pop c < 2 := (nI_ltI (b := 2) (by omega) (by omega)).mp q
        exact nx σ hF hG (by unfold sevB; rw [decide_eq_false (by omega)]; rfl)
      · have q : 2 ≤ pop c := by
          rcases Nat.lt_or_ge (pop c) 2 with g | g
          · exact absurd (nI_lt (b := 2) g (by omega)) q
          · exact g
        refine x_gains hN hG hp hn ctb (fun υ f1 g1 => ?_)
        have ff := fr_t hF (xF_2 f1)
        cases hgn : gnB l e net (bdf net c) p with
        | false => exact br_t rfl (nx υ ff g1 (by unfold sevB; rw [hgn, Bool.and_false]))
        | true =>
          have hsv : sevB l e net p c = true := by unfold sevB; rw [hgn, decide_eq_true q]; rfl
          rw [hsv, if_pos rfl] at hX
          rw [← hX] at hyes
          exact br_f (by decide) (x_found (s := 2) ff g1 (fun ω w0 w1 w2 => hyes ω w0 w1 rfl w2))
theorem x_firstSev {net : Nat} (hN : 801 < N) (hG : xG σ l e) (hn : net < 2 ^ lPc l) (hQ : ∀ τ, xF2 σ τ → xG τ l e → xO τ (fstO (gsev l e net) (lPn l) 0) → Q (b32 (fstO (gsev l e net) (lPn l) 0).isSome) τ) : w_X0_firstSeveral N (lN net) σ Q := by
  have h10 := hG.1.1
  have hpc := pc_le h10
  have h45 := net45 h10 hn
  refine loopU (S := zSt) (fun f p τ => w_X0_firstSeveral_2 N Q f (lN net) (nI p) τ) (fun p τ => xF2 σ τ ∧ xG τ l e ∧ fstO (gsev l e net) (lPn l - p) p = fstO (gsev l e net) (lPn l) 0) (lPn l) ?_ ?_ N 0 σ (Nat.zero_le _) (by omega) ⟨fr_r, hG, rfl⟩
  · intro f τ ⟨h0, h1, h2⟩
    show b_X0_firstSeveral_2 N (w_X0_firstSeveral_2 N Q f) Q (lN net) (nI (lPn l)) τ
    unfold b_X0_firstSeveral_2
    rw [h1.2.2.1.1]
    have hz := fst_e h2
    rw [hz] at hQ
    exact br_t (nI_le (Nat.le_refl _) (by omega)) (hQ τ h0 h1 xO_n)
  · intro f p τ hp ⟨h0, h1, h2⟩ ih
    show b_X0_firstSeveral_2 N (w_X0_firstSeveral_2 N Q f) Q (lN net) (nI p) τ
    unfold b_X0_firstSeveral_2
    have hp10 : p < 10 := by omega
    rw [h1.2.2.1.1, nI_clamp (n := p) (by omega), h1.2.2.2.2.1.2 p hp10, fb_andL]
    have ho := own_lt net p
    have e0 : (-lN (ownN net p)) &&& lN (ownN net p) = lN (nxs (ownN net p) 0) := by
      rw [← nxs_J (Nat.zero_le _) ho]
      congr 1
    refine br_f (nI_ge hp (by omega)) ⟨vp_in_nI hp10 (by decide), nm_e (nm_e ?_)⟩
    have e0' : (-lN (net &&& stU 45 p)) &&& lN (net &&& stU 45 p) = lN (nxs (ownN net p) 0) := e0
    rw [e0']
    obtain ⟨z1, z2⟩ := sv_0 (net := net) hp10
    refine x_sev37 (own := ownN net p) (X := gsev l e net p) hN hn hp ho ?_ (fun υ u0 u1 hx => ih υ ⟨u0, u1, fst_n hp hx h2⟩) (fun υ u0 u1 hx u3 => ?_) N 600 (nxs (ownN net p) 0) 0 τ h0 h1 z1 (by omega) rfl (fun z => by have := z2 z; omega) (by omega) (by omega)
    · exact bdf_0.mpr (fun j hj => by rw [ownN, Nat.testBit_and, Bool.and_eq_true] at hj; exact hj.1)
    · obtain ⟨x, hx2⟩ := Option.isSome_iff_exists.mp hx
      have hs := (fst_s hp hx2).symm.trans h2
      rw [← hs] at hQ
      rw [hx2] at u3
      exact hQ υ u0 u1 u3
end xv
