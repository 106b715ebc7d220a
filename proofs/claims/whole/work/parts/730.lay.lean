/-! the class lays a net: who is near whom -/
def xT (σ : zSt) : Prop := (∀ p, p < 45 → σ.2.2.1 3 p = nI (loN p) ∧ σ.2.2.1 4 p = nI (hiN p)) ∧ ∀ q, q < 10 → σ.2.2.2 2 q = lN (stU 45 q)
def nrm (net q : Nat) : Nat := msk (fun j => td net q j) 10
def nrp (net P q : Nat) : Nat := msk (fun j => td net q j && decide (prN q j < P)) 10
theorem prN_is (q : Nat) (hq : q < 10) (j : Nat) (hj : j < 10) (P : Nat) (hP : P < 45) (hne : q ≠ j) : prN q j = P ↔ (q = loN P ∧ j = hiN P) ∨ (q = hiN P ∧ j = loN P) := by
  obtain ⟨g1, g2, g3, g4, g5⟩ := hiN_ok P hP
  constructor
  · intro h
    by_cases c : q < j
    · obtain ⟨h1, h2⟩ := prN_hl q hq j hj c
      rw [h] at h1 h2
      exact Or.inl ⟨h2.symm, h1.symm⟩
    · obtain ⟨h1, h2⟩ := prN_hl j hj q hq (by omega)
      have e : prN j q = prN q j := (prN_ok q hq j hj hne).2
      rw [e, h] at h1 h2
      exact Or.inr ⟨h1.symm, h2.symm⟩
  · intro h
    rcases h with ⟨h1, h2⟩ | ⟨h1, h2⟩
    · rw [h1, h2]; exact g4
    · rw [h1, h2, prN_c]; exact g4
theorem nrp_0 (net q : Nat) : nrp net 0 q = 0 := msk_0.mpr (fun j _ => by simp)
theorem nrp_lt (net P q : Nat) : nrp net P q < 2 ^ 10 := msk_lt _ _
theorem nrp_bit (net P q j : Nat) : (nrp net P q).testBit j = (decide (j < 10) && (td net q j && decide (prN q j < P))) := msk_bit _ _ _
theorem nrp_same {net P q : Nat} (hP : P < 45) (hq : q < 10) (h : net.testBit P = false ∨ (q ≠ loN P ∧ q ≠ hiN P)) : nrp net (P + 1) q = nrp net P q := by
  apply bit_ext
  intro j
  rw [nrp_bit, nrp_bit]
  by_cases hj : j < 10
  · by_cases e : q = j
    · subst e; simp [td_n]
    · have hi := prN_is q hq j hj P hP e
      by_cases hp : prN q j = P
      · rcases h with h | h
        · simp [td, hp, h]
        · have := hi.mp hp
          omega
      · have : (prN q j < P + 1) = (prN q j < P) := propext (by omega)
        simp [this]
  · simp [hj]
theorem nrp_lo {net P : Nat} (hP : P < 45) (h : net.testBit P = true) : nrp net (P + 1) (loN P) = nrp net P (loN P) ||| 2 ^ hiN P := by
  obtain ⟨g1, g2, g3, g4, g5⟩ := hiN_ok P hP
  apply bit_ext
  intro j
  rw [Nat.testBit_or, nrp_bit, nrp_bit, Nat.testBit_two_pow]
  by_cases hj : j < 10
  · by_cases e : loN P = j
    · subst e
      have : ¬ hiN P = loN P := by omega
      simp [td_n, this]
    · have hi := prN_is (loN P) (by omega) j hj P hP e
      by_cases hp : prN (loN P) j = P
      · have h2 : hiN P = j := by
          have := hi.mp hp
          omega
        have h3 : ¬ loN P = hiN P := by omega
        subst h2
        simp [td, h, g2, g4, h3]
      · have h2 : ¬ hiN P = j := fun q => hp (hi.mpr (Or.inl ⟨rfl, q.symm⟩))
        have : (prN (loN P) j < P + 1) = (prN (loN P) j < P) := propext (by omega)
        simp [this, h2]
  · have : ¬ hiN P = j := by omega
    simp [hj, this]
theorem nrp_hi {net P : Nat} (hP : P < 45) (h : net.testBit P = true) : nrp net (P + 1) (hiN P) = nrp net P (hiN P) ||| 2 ^ loN P := by
  obtain ⟨g1, g2, g3, g4, g5⟩ := hiN_ok P hP
  apply bit_ext
  intro j
  rw [Nat.testBit_or, nrp_bit, nrp_bit, Nat.testBit_two_pow]
  by_cases hj : j < 10
  · by_cases e : hiN P = j
    · subst e
      have : ¬ loN P = hiN P := by omega
      simp [td_n, this]
    · have hi := prN_is (hiN P) (by omega) j hj P hP e
      by_cases hp : prN (hiN P) j = P
      · have h2 : loN P = j := by
          have := hi.mp hp
          omega
        have h3 : ¬ hiN P = loN P := by omega
        subst h2
        have h4 : loN P < 10 := by omega
        have h5 : prN (hiN P) (loN P) = P := by rw [prN_c]; exact g4
        simp [td, h, h4, h5, h3]
      · have h2 : ¬ loN P = j := fun q => hp (hi.mpr (Or.inr ⟨rfl, q.symm⟩))
        have : (prN (hiN P) j < P + 1) = (prN (hiN P) j < P) := propext (by omega)
        simp [this, h2]
  · have : ¬ loN P = j := by omega
    simp [hj, this]
theorem nrp_all {net pc q : Nat} (hnet : net < 2 ^ pc) : nrp net pc q = nrm net q := by
  apply bit_ext
  intro j
  rw [nrp_bit, nrm, msk_bit]
  by_cases hp : prN q j < pc
  · simp [hp]
  · have : td net q j = false := by
      rw [td, bit_hi hnet (by omega)]; simp
    simp [this]
theorem x_lay50 {N net pc : Nat} {σ : zSt} {Q : zSt → Prop} (hN : 50 < N) (hpc : pc ≤ 45) (hnet : net < 2 ^ 45) (hp : σ.1 2 = nI pc) (hT : xT σ) (hQ : ∀ τ, fr [] [4] [28] [] σ τ → τ.2.1 4 = lN net → (∀ q, q < 10 → τ.2.2.1 28 q = nI (nrp net pc q)) → Q τ) (τ : zSt) (h1 : fr [] [4] [28] [] σ τ) (h2 : τ.2.1 4 = lN net) (h3 : ∀ q, q < 10 → τ.2.2.1 28 q = 0) : w_X10_lay_50 N Q N (lN net) 0 τ := by
  refine loopU (S := zSt) (fun f P τ => w_X10_lay_50 N Q f (lN net) (nI P) τ) (fun P τ => fr [] [4] [28] [] σ τ ∧ τ.2.1 4 = lN net ∧ ∀ q, q < 10 → τ.2.2.1 28 q = nI (nrp net P q)) pc ?_ ?_ N 0 τ (Nat.zero_le _) (by omega) ⟨h1, h2, fun q hq => by rw [h3 q hq, nrp_0]; rfl⟩
  · intro f τ ⟨h1, h2, h3⟩
    show b_X10_lay_50 N (w_X10_lay_50 N Q f) Q (lN net) (nI pc) τ
    unfold b_X10_lay_50
    rw [(h1.1 2 (by decide)).trans hp]
    exact br_t (nI_le (Nat.le_refl _) (by omega)) (hQ τ h1 h2 h3)
  · intro f P τ hP ⟨h1, h2, h3⟩ ih
    show b_X10_lay_50 N (w_X10_lay_50 N Q f) Q (lN net) (nI P) τ
    unfold b_X10_lay_50
    obtain ⟨g1, g2, g3, g4, g5⟩ := hiN_ok P (by omega)
    have e2 : τ.1 2 = nI pc := (h1.1 2 (by decide)).trans hp
    have eL : τ.2.2.1 3 P = nI (loN P) := (congrFun (h1.2.2.1 3 (by decide)) P).trans (hT.1 P (by omega)).1
    have eH : τ.2.2.1 4 P = nI (hiN P) := (congrFun (h1.2.2.1 4 (by decide)) P).trans (hT.1 P (by omega)).2
    have n1 := h3 (loN P) (by omega)
    have n2 := h3 (hiN P) (by omega)
    simp (disch := omega) only [forall_eq, true_and, and_true, lg_cmp_ge, lg_cmp_le, lg_cmp_gt, lg_cmp_lt, lg_cmp_eq, zI_1s, zI_1n, zI_2, zJ_1, zJ_2s, zJ_2n, zJ_3, zA_1, zA_2, zA_3s, zA_3n, zA_4, zB_1, zB_2, zB_3, zB_4s, zB_4n, nI_leI, nI_ltI, nI_eq, nI_add, nI_clamp, vpi, pk_us, pk_un, pk_uLs, pk_uLn, bitI, bitJ, oneI, oneJ, fa_or, fb_orL, lgz_ge, lgz_le, lgz_gt, lgz_lt, lgz_eq, li_0, li_1, li_2, li_3, li_4, li_5, li_6, li_7, li_8, li_9, li_10, li_11, li_12, li_13, li_14, li_15, li_16, li_17, li_18, li_19, li_20, li_21, li_22, li_23, li_24, li_25, li_26, li_30, li_31, li_32, li_39, li_40, li_45, li_64, li_99, li_100, li_120, li_127, li_200, li_201, li_255, li_256, li_512, li_780, li_800, li_801, li_900, li_999, li_1000, li_1024, li_8191, li_8192, e2, eL, eH, n1, n2]
    refine ⟨fun h => absurd h (by omega), fun _ => ⟨fun hb => ih τ ⟨h1, h2, fun q hq => ?_⟩, fun hb => ?_⟩⟩
    · rw [nrp_same (by omega) hq (Or.inl hb)]; exact h3 q hq
    · have hb : net.testBit P = true := by simpa using hb
      repeat (refine ⟨by omega, ?_⟩)
      refine ih _ ⟨fr_A (fr_A h1 (by decide)) (by decide), h2, fun q hq => ?_⟩
      simp only [zA_3s]
      by_cases e : q = hiN P
      · subst e
        rw [pk_us, nrp_hi (by omega) hb]
      · rw [pk_un e]
        by_cases e2 : q = loN P
        · subst e2
          rw [pk_us, nrp_lo (by omega) hb]
        · rw [pk_un e2, nrp_same (by omega) hq (Or.inr ⟨e2, e⟩)]; exact h3 q hq
theorem x_lay17 {N net pc : Nat} {σ : zSt} {Q : zSt → Prop} (hN : 50 < N) (hpc : pc ≤ 45) (hnet : net < 2 ^ 45) (hp : σ.1 2 = nI pc) (hT : xT σ) (hQ : ∀ τ, fr [] [4] [28] [] σ τ → τ.2.1 4 = lN net → (∀ q, q < 10 → τ.2.2.1 28 q = nI (nrp net pc q)) → Q τ) (τ : zSt) (h1 : fr [] [4] [28] [] σ τ) (h2 : τ.2.1 4 = lN net) : w_X10_lay_17 N Q N (lN net) 0 τ := by
  refine loopU (S := zSt) (fun f P τ => w_X10_lay_17 N Q f (lN net) (nI P) τ) (fun P τ => fr [] [4] [28] [] σ τ ∧ τ.2.1 4 = lN net ∧ ∀ q, q < P → τ.2.2.1 28 q = 0) 10 ?_ ?_ N 0 τ (Nat.zero_le _) (by omega) ⟨h1, h2, fun q hq => absurd hq (Nat.not_lt_zero _)⟩
  · intro f τ ⟨h1, h2, h3⟩
    show b_X10_lay_17 N (w_X10_lay_17 N Q f) Q (lN net) (nI 10) τ
    unfold b_X10_lay_17
    exact br_t (nI_le (a := 10) (Nat.le_refl _) (by omega)) (x_lay50 hN hpc hnet hp hT hQ τ h1 h2 h3)
  · intro f P τ hP ⟨h1, h2, h3⟩ ih
    show b_X10_lay_17 N (w_X10_lay_17 N Q f) Q (lN net) (nI P) τ
    unfold b_X10_lay_17
    simp (disch := omega) only [forall_eq, true_and, and_true, lg_cmp_ge, lg_cmp_le, lg_cmp_gt, lg_cmp_lt, lg_cmp_eq, zI_1s, zI_1n, zI_2, zJ_1, zJ_2s, zJ_2n, zJ_3, zA_1, zA_2, zA_3s, zA_3n, zA_4, zB_1, zB_2, zB_3, zB_4s, zB_4n, nI_leI, nI_ltI, nI_eq, nI_add, nI_clamp, vpi, pk_us, pk_un, pk_uLs, pk_uLn, bitI, bitJ, oneI, oneJ, fa_or, fb_orL, lgz_ge, lgz_le, lgz_gt, lgz_lt, lgz_eq, li_0, li_1, li_2, li_3, li_4, li_5, li_6, li_7, li_8, li_9, li_10, li_11, li_12, li_13, li_14, li_15, li_16, li_17, li_18, li_19, li_20, li_21, li_22, li_23, li_24, li_25, li_26, li_30, li_31, li_32, li_39, li_40, li_45, li_64, li_99, li_100, li_120, li_127, li_200, li_201, li_255, li_256, li_512, li_780, li_800, li_801, li_900, li_999, li_1000, li_1024, li_8191, li_8192]
    refine ⟨fun h => absurd h (by omega), fun _ => ⟨by omega, ih _ ⟨fr_A h1 (by decide), h2, fun q hq => ?_⟩⟩⟩
    simp only [zA_3s]
    by_cases e : q = P
    · subst e; rw [pk_us]; rfl
    · rw [pk_un e]; exact h3 q (by omega)
/-- what is laid -/
def xD (σ : zSt) : Prop := σ.2.1 4 = -1 ∨ ∃ net, net < 2 ^ 45 ∧ σ.2.1 4 = lN net ∧ ∀ q, q < 10 → σ.2.2.1 28 q = nI (nrm net q)
theorem lN_m1 {n : Nat} (h : n < 2 ^ 62) : ¬ lN n = -1 := by
  intro e
  have := congrArg Int64.toInt e
  rw [pf_lI (by omega)] at this
  have h2 : (-1 : Int64).toInt = -1 := by decide
  omega
theorem x_lay {N net pc : Nat} {σ : zSt} {Q : zSt → Prop} (hN : 50 < N) (hpc : pc ≤ 45) (hnet : net < 2 ^ pc) (hp : σ.1 2 = nI pc) (hT : xT σ) (hD : xD σ) (hQ : ∀ τ, fr [] [4] [28] [] σ τ → τ.2.1 4 = lN net → (∀ q, q < 10 → τ.2.2.1 28 q = nI (nrm net q)) → Q τ) : w_X10_lay N (lN net) σ Q := by
  have h45 : net < 2 ^ 45 := Nat.lt_of_lt_of_le hnet (Nat.pow_le_pow_right (by decide) hpc)
  unfold w_X10_lay
  simp only [lg_cmp_eq, forall_eq]
  refine ⟨fun e => ?_, fun _ => ?_⟩
  · rcases hD with h | ⟨m, h1, h2, h3⟩
    · exact absurd (e.trans h) (lN_m1 (by omega))
    · have : net = m := (fb_lN_inj (by omega) (by omega)).mp (e.trans h2)
      subst this
      exact hQ σ fr_r h2 h3
  · exact x_lay17 hN hpc h45 hp hT (fun τ h1 h2 h3 => hQ τ h1 h2 (fun q hq => by rw [h3 q hq, nrp_all hnet])) _ (fr_J fr_r (by decide)) zJ_2s
