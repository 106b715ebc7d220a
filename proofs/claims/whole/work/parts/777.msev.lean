/-! the reference's sets of a person's ties -/
def owB (p q k : Nat) : Bool := (decide (loN k = p) && decide (hiN k < q)) || (decide (hiN k = p) && decide (loN k < q))
def owQ (net p q : Nat) : Nat := net &&& msk (owB p q) 45
theorem owQ_0 (net p : Nat) : owQ net p 0 = 0 := by
  unfold owQ
  rw [msk_0.mpr (fun k _ => by unfold owB; simp), Nat.and_zero]
theorem owQ_s {net p q : Nat} (hp : p < 10) (hq : q < 10) (hne : q ≠ p) : owQ net p (q + 1) = owQ net p q ||| (net &&& 2 ^ prN p q) := by
  apply bit_ext
  intro k
  unfold owQ
  rw [Nat.testBit_or, Nat.testBit_and, Nat.testBit_and, Nat.testBit_and, msk_bit, msk_bit, Nat.testBit_two_pow, ← Bool.and_or_distrib_left]
  congr 1
  have hpr := (prN_ok p hp q hq (Ne.symm hne)).1
  by_cases hk : k < 45
  · have hi := prN_is p hp q hq k hk (Ne.symm hne)
    simp only [hk, decide_true, Bool.true_and]
    unfold owB
    obtain ⟨g1, g2, g3, g4, g5⟩ := hiN_ok k hk
    apply Bool.eq_iff_iff.mpr
    simp only [Bool.or_eq_true, Bool.and_eq_true, decide_eq_true_eq]
    rw [hi]
    omega
  · have : ¬ prN p q = k := by omega
    simp [hk, this]
theorem owQ_p {net p : Nat} (hp : p < 10) : owQ net p (p + 1) = owQ net p p := by
  apply bit_ext
  intro k
  unfold owQ
  rw [Nat.testBit_and, Nat.testBit_and, msk_bit, msk_bit]
  congr 1
  by_cases hk : k < 45
  · simp only [hk, decide_true, Bool.true_and]
    unfold owB
    obtain ⟨g1, g2, g3, g4, g5⟩ := hiN_ok k hk
    apply Bool.eq_iff_iff.mpr
    simp only [Bool.or_eq_true, Bool.and_eq_true, decide_eq_true_eq]
    omega
  · simp [hk]
theorem owQ_n {net p n : Nat} (hn : n ≤ 10) (h : net < 2 ^ (n * (n - 1) / 2)) : owQ net p n = ownN net p := by
  apply bit_ext
  intro k
  unfold owQ ownN
  rw [Nat.testBit_and, Nat.testBit_and, msk_bit, stU_msk, msk_bit]
  rcases Nat.lt_or_ge k (n * (n - 1) / 2) with g | g
  · have h45 : n * (n - 1) / 2 ≤ 45 := tri_mono (b := 10) hn
    have hk : k < 45 := by omega
    have h1 := lo_pc hn g
    have h2 := hi_pc hn g
    congr 1
    simp only [hk, decide_true, Bool.true_and]
    unfold owB
    apply Bool.eq_iff_iff.mpr
    simp only [Bool.or_eq_true, Bool.and_eq_true, decide_eq_true_eq]
    omega
  · rw [bit_hi h g]; rfl
section mv2
variable {N : Nat} {μ : zSt} {l : zL} {e : Nat → Int32} {Q : Int32 → zSt → Prop}
theorem m_own {net p : Nat} {Q : Int64 → zSt → Prop} (hN : 1100 < N) (hG : mG μ l e) (hp : p < lPn l) (hn : net < 2 ^ lPc l) (hQ : Q (lN (ownN net p)) μ) : w_X12_ownTies N (lN net) (nI p) μ Q := by
  have h10 := hG.1.1
  have key := loopU (S := Unit) (fun f q _ => w_X12_ownTies_6 N Q f (lN net) (nI p) (lN (owQ net p q)) (nI q) μ) (fun _ _ => True) (lPn l) ?_ ?_ N 0 () (Nat.zero_le _) (by omega) trivial
  · rw [owQ_0] at key; exact key
  · intro f _ _
    show b_X12_ownTies_6 N (w_X12_ownTies_6 N Q f) Q (lN net) (nI p) (lN (owQ net p (lPn l))) (nI (lPn l)) μ
    unfold b_X12_ownTies_6
    rw [owQ_n h10 hn]
    exact m_many hG.2.2.1.1 (br_t (nI_le (Nat.le_refl _) (by omega)) hQ)
  · intro f q _ hq _ ih
    show b_X12_ownTies_6 N (w_X12_ownTies_6 N Q f) Q (lN net) (nI p) (lN (owQ net p q)) (nI q) μ
    unfold b_X12_ownTies_6
    have ih := ih () trivial
    refine m_many hG.2.2.1.1 (br_f (nI_ge hq (by omega)) ⟨fun r => nm_e ?_, fun r => ?_⟩)
    · have r := (nI_eq (by omega) (by omega)).mp r
      subst r
      rw [owQ_p (by omega)] at ih
      rw [nI_1]; exact ih
    · have r : q ≠ p := fun z => r (by rw [z])
      have hpr := (prN_ok p (by omega) q (by omega) (Ne.symm r)).1
      unfold w_X12_tied
      refine m_pairOf (by omega) (by omega) (nm_e (nm_e ?_))
      rw [oneJ (by omega), fb_andL, fb_orL, ← owQ_s (by omega) (by omega) r, nI_1]
      exact ih
theorem m_sev26 {k2 : Int64 → Int32 → zSt → Prop} {net p own : Nat} {μ0 : zSt} {X : zO} (hN : 1100 < N) (h10 : lPn l ≤ 10) (hn : net < 2 ^ lPc l) (hp : p < lPn l) (ho : own < 2 ^ 45) (hw : nowI μ0 l e net) (hno : ∀ τ, mF3 μ0 τ → mG τ l e → X = none → k2 (lN net) (nI (p + 1)) τ) (hyes : ∀ τ, mF3 μ0 τ → mG τ l e → X.isSome = true → mO τ X → Q 1 τ) : ∀ (f m c : Nat) (μ : zSt), mF3 μ0 μ → mG μ l e → svI own m c → 0 < m → sevO l e net p own m c = X → m ≤ f → w_X12_findsSeveral_26 N k2 Q f (lN net) (nI p) (lN own) (lN c) μ
  | 0, m, c, μ, _, _, _, h0, _, hf => absurd h0 (by omega)
  | f + 1, 0, c, μ, _, _, _, h0, _, hf => absurd h0 (Nat.lt_irrefl _)
  | f + 1, m + 1, c, μ, hF, hG, hS, _, hX, hf => by
    have h45 := net45 h10 hn
    have hpc := pc_le h10
    show b_X12_findsSeveral_26 N k2 (w_X12_findsSeveral_26 N k2 Q f) Q (lN net) (nI p) (lN own) (lN c) μ
    unfold b_X12_findsSeveral_26 b_X12_findsSeveral_75
    have e1 : (1 : Int32) <<< (nI p &&& 31) = nI (2 ^ p) := oneI (by omega)
    rw [sevO] at hX
    rw [lg_cmp_eq, bdfJ, e1, nI_1 p]
    by_cases hc : c = 0
    · rw [if_pos hc] at hX
      subst hc
      have := hno μ hF hG hX.symm
      exact ⟨fun _ => nm_e this, fun q => absurd rfl q⟩
    · rw [if_neg hc] at hX
      obtain ⟨s1, s2, s3⟩ := sv_s ho hc hS
      have c45 : c < 2 ^ 45 := by omega
      have ctb : bdf net c < 2 ^ lPc l := bdf_lt hn
      have hpos := (hS.2 hc)
      have nx : ∀ υ, mF3 μ0 υ → mG υ l e → sevB l e net p c = false → ∀ v1 : Int64, v1 = (lN c - lN own) &&& lN own → w_X12_findsSeveral_26 N k2 Q f (lN net) (nI p) (lN own) v1 υ := by
        intro υ u0 u1 hs v1 e1
        rw [e1, nxs_J s2 ho]
        rw [hs, if_neg (by decide)] at hX
        exact m_sev26 hN h10 hn hp ho hw hno hyes f m (nxs own c) υ u0 u1 s1 (by omega) hX (by omega)
      refine br_f (fun q => hc ((fb_lN_inj (b := 0) (by omega) (by omega)).mp q)) (m_bits (by omega) (by omega) ?_)
      have hpl : pop c ≤ 45 := fb_ct_le _ _
      have epop : fb_ct (fun j => c.testBit j) 45 = pop c := rfl
      rw [epop]
      refine ⟨fun q => ?_, fun q => ?_⟩
      · have q : pop c ≤ 1 := (nI_leI (b := 1) (by omega) (by omega)).mp q
        exact nx μ hF hG (by unfold sevB; rw [decide_eq_false (by omega)]; rfl)
      · have q : 2 ≤ pop c := by
          rcases Nat.lt_or_ge (pop c) 2 with g | g
          · exact absurd (nI_le (b := 1) (by omega) (by omega)) q
          · exact g
        refine m_gains hN hG (now_3 hF hw) hp ctb (fun υ f1 g1 => ?_)
        have ff := fr_t hF (mF_3 f1)
        cases hgn : gnB l e net (bdf net c) p with
        | false => exact br_t rfl (nx υ ff g1 (by unfold sevB; rw [hgn, Bool.and_false]))
        | true =>
          have hsv : sevB l e net p c = true := by unfold sevB; rw [hgn, decide_eq_true q]; rfl
          rw [hsv, if_pos rfl] at hX
          rw [← hX] at hyes
          exact br_f (by decide) (m_finds (s := 2) ff g1 (fun ω w0 w1 w2 => hyes ω w0 w1 rfl w2))
theorem m_findsSev {net : Nat} (hN : 1100 < N) (hG : mG μ l e) (hw : nowI μ l e net) (hn : net < 2 ^ lPc l) (hQ : ∀ τ, mF3 μ τ → mG τ l e → mO τ (fstO (gsev l e net) (lPn l) 0) → Q (b32 (fstO (gsev l e net) (lPn l) 0).isSome) τ) : w_X12_findsSeveral N (lN net) μ Q := by
  have h10 := hG.1.1
  have hpc := pc_le h10
  have h45 := net45 h10 hn
  refine loopU (S := zSt) (fun f p τ => w_X12_findsSeveral_2 N Q f (lN net) (nI p) τ) (fun p τ => mF3 μ τ ∧ mG τ l e ∧ fstO (gsev l e net) (lPn l - p) p = fstO (gsev l e net) (lPn l) 0) (lPn l) ?_ ?_ N 0 μ (Nat.zero_le _) (by omega) ⟨fr_r, hG, rfl⟩
  · intro f τ ⟨h0, h1, h2⟩
    show b_X12_findsSeveral_2 N (w_X12_findsSeveral_2 N Q f) Q (lN net) (nI (lPn l)) τ
    unfold b_X12_findsSeveral_2
    have hz := fst_e h2
    rw [hz] at hQ
    exact m_many h1.2.2.1.1 (br_t (nI_le (Nat.le_refl _) (by omega)) (hQ τ h0 h1 mO_n))
  · intro f p τ hp ⟨h0, h1, h2⟩ ih
    show b_X12_findsSeveral_2 N (w_X12_findsSeveral_2 N Q f) Q (lN net) (nI p) τ
    unfold b_X12_findsSeveral_2
    have hp10 : p < 10 := by omega
    have ho := own_lt net p
    refine m_many h1.2.2.1.1 (br_f (nI_ge hp (by omega)) (m_own hN h1 hp hn (nm_e ?_)))
    have e0 : lN (ownN net p) &&& (-lN (ownN net p)) = lN (nxs (ownN net p) 0) := by
      rw [← nxs_J (Nat.zero_le _) ho, Int64.and_comm]
      congr 1
    rw [e0]
    obtain ⟨z1, z2⟩ := sv_0 (net := net) hp10
    refine m_sev26 (own := ownN net p) (X := gsev l e net p) hN h10 hn hp ho hw (fun υ u0 u1 hx => ih υ ⟨u0, u1, fst_n hp hx h2⟩) (fun υ u0 u1 hx u3 => ?_) N 600 (nxs (ownN net p) 0) τ h0 h1 z1 (by omega) rfl (by omega)
    obtain ⟨x, hx2⟩ := Option.isSome_iff_exists.mp hx
    have hs := (fst_s hp hx2).symm.trans h2
    rw [← hs] at hQ
    rw [hx2] at u3
    exact hQ υ u0 u1 u3
end mv2
