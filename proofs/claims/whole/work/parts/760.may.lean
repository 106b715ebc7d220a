/-! which nets may be; gains, cuts, adds -/
def mayv (l : zL) (net : Nat) : Bool := decide (net &&& lBa l = 0) && (List.range (lPn l)).all (fun p => decide (dg (lPn l) net p ≤ lMo l p))
theorem mayv_t {l : zL} {net : Nat} (h : net &&& lBa l = 0) (h2 : ∀ p, p < lPn l → dg (lPn l) net p ≤ lMo l p) : mayv l net = true := by
  unfold mayv
  rw [Bool.and_eq_true]
  exact ⟨decide_eq_true h, List.all_eq_true.mpr (fun p hp => decide_eq_true (h2 p (List.mem_range.mp hp)))⟩
theorem mayv_f1 {l : zL} {net : Nat} (h : ¬ net &&& lBa l = 0) : mayv l net = false := by
  unfold mayv
  rw [decide_eq_false h]; rfl
theorem mayv_f2 {l : zL} {net p : Nat} (hp : p < lPn l) (h : ¬ dg (lPn l) net p ≤ lMo l p) : mayv l net = false := by
  cases hm : mayv l net with
  | false => rfl
  | true =>
    unfold mayv at hm
    rw [Bool.and_eq_true] at hm
    have := List.all_eq_true.mp hm.2 p (List.mem_range.mpr hp)
    exact absurd (of_decide_eq_true this) h
def b32 (b : Bool) : Int32 := if b = true then 1 else 0
theorem b32_0 {b : Bool} : b32 b = 0 ↔ b = false := by cases b <;> decide
theorem b32_zb (b : Bool) : zb (b32 b) := by cases b; exact zb_0; exact zb_1
theorem andz {a b : Nat} (ha : a < 2 ^ 45) : lN a &&& lN b = 0 ↔ a &&& b = 0 := by
  have hl : a &&& b < 2 ^ 45 := Nat.lt_of_le_of_lt Nat.and_le_left ha
  rw [fb_andL, show (0 : Int64) = lN 0 from rfl, fb_lN_inj (by omega) (by omega)]
section ma
variable {N : Nat} {σ : zSt} {l : zL} {e : Nat → Int32} {Q : Int32 → zSt → Prop}
theorem x_may {net : Nat} (hN : 801 < N) (hG : xG σ l e) (hnet : net < 2 ^ lPc l) (hQ : Q (b32 (mayv l net)) σ) : w_X4_may N (lN net) σ Q := by
  obtain ⟨g1, g2, g3, g4, g5, g6, g7, g8⟩ := id hG
  have h10 := g1.1
  have h45 := net45 h10 hnet
  unfold w_X4_may
  simp only [lg_cmp_eq]
  rw [g3.2.2.1, andz h45]
  refine ⟨fun hz => ?_, fun hz => ?_⟩
  · refine loopU (S := Unit) (fun f p _ => w_X4_may_15 N Q f (lN net) (nI p) σ) (fun p _ => ∀ p', p' < p → dg (lPn l) net p' ≤ lMo l p') (lPn l) ?_ ?_ N 0 () (Nat.zero_le _) (by omega) (fun p h => absurd h (Nat.not_lt_zero _))
    · intro f _ h
      show b_X4_may_15 N (w_X4_may_15 N Q f) Q (lN net) (nI (lPn l)) σ
      unfold b_X4_may_15
      rw [g3.1]
      refine br_t (nI_le (Nat.le_refl _) (by omega)) ?_
      rw [mayv_t hz h] at hQ
      exact hQ
    · intro f p _ hp h ih
      show b_X4_may_15 N (w_X4_may_15 N Q f) Q (lN net) (nI p) σ
      unfold b_X4_may_15
      have hd := dg_le (lPn l) net p
      have hm := (g1.2.1 p hp).2
      have hv : vp_in (nI p) 10 := vp_in_nI (by omega) (by decide)
      rw [g3.1, nI_clamp (n := p) (by omega)]
      refine br_f (nI_ge hp (by omega)) ⟨hv, x_star h10 (td_lt hnet) (by omega) h45 (g5.2 p (by omega)) ⟨hv, ?_⟩⟩
      rw [(g3.2.2.2 p hp).2.1]
      refine ⟨fun q => nm_e ?_, fun q => ?_⟩
      · rw [nI_1]
        have q := (nI_leI (by omega) (by omega)).mp q
        exact ih () (lt_s h q)
      · have q : ¬ dg (lPn l) net p ≤ lMo l p := fun r => q (nI_le r (by omega))
        rw [mayv_f2 hp q] at hQ
        exact hQ
  · rw [mayv_f1 hz] at hQ
    exact hQ
end ma
theorem shrL {a d : Nat} (h : a < 2 ^ 63) (hd : d < 64) : lN a >>> ((nI d).toInt64 &&& 63) = lN (a / 2 ^ d) := by
  rw [wb_c d hd]
  have hle : a / 2 ^ d ≤ a := Nat.div_le_self _ _
  apply Int64.toInt_inj.mp
  have e : (lN a >>> lN d).toInt = (lN a).toInt >>> ((lN d).toBitVec.smod 64).toNat := BitVec.toInt_sshiftRight ..
  rw [shr_c d hd] at e
  rw [e, Int.shiftRight_eq_div_pow, pf_lI (by omega), pf_lI (by omega)]
  rfl
section mb
variable {N : Nat} {μ : zSt} {l : zL} {e : Nat → Int32} {Q : Int32 → zSt → Prop}
theorem m_may {net : Nat} (hN : 801 < N) (hG : mG μ l e) (hnet : net < 2 ^ lPc l) (hQ : Q (b32 (mayv l net)) μ) : w_X12_may N (lN net) μ Q := by
  obtain ⟨g1, g2, g3, g4, g5, g6, g7⟩ := id hG
  have h10 := g1.1
  have h45 := net45 h10 hnet
  have hpc := pc_le h10
  unfold w_X12_may
  simp only [lg_cmp_lt, lg_cmp_eq]
  refine br_f (fun q => ?_) (m_pairs g3.1 h10 ?_)
  · rw [show (0 : Int64) = lN 0 from rfl, pk_lLT (by omega) (by omega)] at q
    exact absurd q (Nat.not_lt_zero _)
  · have e0 : lN net >>> ((nI (lPn l * (lPn l - 1) / 2)).toInt64 &&& 63) = 0 := by
      have := shrL (a := net) (d := lPc l) (by omega) (by omega)
      rw [Nat.div_eq_of_lt hnet] at this
      exact this
    refine br_t e0 ?_
    rw [g3.2.1, andz h45]
    refine ⟨fun hz => ?_, fun hz => ?_⟩
    · refine loopU (S := Unit) (fun f p _ => w_X12_may_34 N Q f (lN net) (nI p) μ) (fun p _ => ∀ p', p' < p → dg (lPn l) net p' ≤ lMo l p') (lPn l) ?_ ?_ N 0 () (Nat.zero_le _) (by omega) (fun p h => absurd h (Nat.not_lt_zero _))
      · intro f _ h
        show b_X12_may_34 N (w_X12_may_34 N Q f) Q (lN net) (nI (lPn l)) μ
        unfold b_X12_may_34
        refine m_many g3.1 (br_t (nI_le (Nat.le_refl _) (by omega)) ?_)
        rw [mayv_t hz h] at hQ
        exact hQ
      · intro f p _ hp h ih
        show b_X12_may_34 N (w_X12_may_34 N Q f) Q (lN net) (nI p) μ
        unfold b_X12_may_34
        have hd := dg_le (lPn l) net p
        have hm := (g1.2.1 p hp).2
        have hv : vp_in (nI (10 + p)) 20 := vp_in_nI (by omega) (by decide)
        refine m_many g3.1 (br_f (nI_ge hp (by omega)) (m_ties (by omega) h45 g3.1 h10 (by omega) ?_))
        rw [li_10, nI_add, nI_clamp (n := 10 + p) (by omega), (g3.2.2 p hp).2]
        refine ⟨hv, fun q => nm_e ?_, fun q => ?_⟩
        · rw [nI_1]
          have q := (nI_leI (by omega) (by omega)).mp q
          exact ih () (lt_s h q)
        · have q : ¬ dg (lPn l) net p ≤ lMo l p := fun r => q (nI_le r (by omega))
          rw [mayv_f2 hp q] at hQ
          exact hQ
    · rw [mayv_f1 hz] at hQ
      exact hQ
/-- what may not be at all -/
theorem m_may_no {x : Int64} (hG : mG μ l e) (h : x < 0 ∨ ∃ k, k < 2 ^ 63 ∧ x = lN k ∧ 2 ^ lPc l ≤ k) (hQ : Q 0 μ) : w_X12_may N x μ Q := by
  obtain ⟨g1, g2, g3, g4, g5, g6, g7⟩ := id hG
  have h10 := g1.1
  have hpc := pc_le h10
  unfold w_X12_may
  simp only [lg_cmp_lt, lg_cmp_eq]
  rcases h with h | ⟨k, h1, h2, h3⟩
  · exact br_t h hQ
  · subst h2
    refine br_f (fun q => ?_) (m_pairs g3.1 h10 (br_f (fun q => ?_) hQ))
    · rw [show (0 : Int64) = lN 0 from rfl, pk_lLT (by omega) (by omega)] at q
      exact absurd q (Nat.not_lt_zero _)
    · have e0 := shrL (a := k) (d := lPc l) h1 (by omega)
      have hq : lN (k / 2 ^ lPc l) = lN 0 := e0.symm.trans q
      have hle : k / 2 ^ lPc l ≤ k := Nat.div_le_self _ _
      have := (fb_lN_inj (by omega) (by omega)).mp hq
      have := Nat.div_pos h3 (Nat.two_pow_pos _)
      omega
end mb
