/-! the reference reads numbers and names -/
section mn
variable {N : Nat} {tp : Nat × (Nat → Nat)} {Q : Int32 → zSt → Prop} {μ ν : zSt} {p : Nat} {g : Bool} {s : zP}
theorem m_number {lim : Nat} (hN : 1100 < N) (hl : lim < 2 ^ 31) (hT : mTape μ tp) (h : mPos μ tp s.1 s.2.1) (h1 : ∀ v ν, nuP tp lim s = .ok v → fr [1, 3] [] [] [] μ ν → mPos ν tp (nxP tp s).1 (nxP tp s).2.1 → Q (nI v) ν) (h2 : ∀ e v ν, nuP tp lim s = .error e → fr [1, 3, 4, 5] [] [] [] μ ν → mBd ν e → Q v ν) : w_X12_number N (0 : Int32) (nI lim) μ Q := by
  have h8 := hT.1
  have hb := mTp_b hT
  have hs := sT_le h.1
  unfold w_X12_number
  refine br_t h.2.1 (m_look hN hT h (fun ν f1 a1 p1 => m_digit hb ?_))
  have a1' : ν.1 1 = nI (sT tp s.1) := a1
  have bad : ¬ kS tp s = 2 → b_X12_number_30 N Q ν := fun c => by
    have e : nuP tp lim s = .error (1, sT tp s.1) := by unfold nuP; rw [if_neg c]
    unfold b_X12_number_30
    rw [a1']
    exact m_fl (k := 1) p1.2.1 (fun υ f2 b2 => h2 _ _ υ e (fr_t (fr_w f1 (subl rfl) (subl rfl) (subl rfl) (subl rfl)) (fr_w f2 (subl rfl) (subl rfl) (subl rfl) (subl rfl))) b2)
  rw [a1', en_i p1.2.2.2.1 (by omega)]
  refine ⟨fun z => bad (fun c => by rw [(kT_2 c).1] at z; exact absurd z (by decide)), fun z => ⟨fun y => bad (fun c => (kT_2 c).2 y), fun y => nm_e ?_⟩⟩
  have hd := b32_n.mp z
  have hk : kS tp s = 2 := by show kT tp s.1 s.2.1 = 2; rw [kT_d hd, if_neg y]
  have hTν := mTp_f f1 (by decide) (by decide) hT
  have hE := eT_le (tp := tp) hs
  have hg := eT_gt h8 (dB_lt hd)
  have heE : eT tp (sT tp s.1) = enF (dB tp) (sT tp s.1) := eT_d hd
  have hr := run_d hd
  have hll : lB tp (sT tp s.1) = false := by
    cases e : lB tp (sT tp s.1) with
    | false => rfl
    | true => rw [lB_d e] at hd; exact absurd hd (by decide)
  have hvT : vT tp s.1 = nuR (fun k => tp.2 (sT tp s.1 + k)) (min (zS tp s) 4) := by unfold vT; rw [if_neg (by rw [hll]; decide), if_pos hd]; rfl
  have hz : zS tp s = eT tp (sT tp s.1) - sT tp s.1 := rfl
  have hwn : wnB tp (sT tp s.1) = true := by unfold wnB; rw [hd, Bool.or_true]
  -- digit by digit
  refine loopU (fun f i (u : zSt) => w_X12_number_49 N Q f (0 : Int32) (nI lim) (nI (sT tp s.1)) (nI (nuR (fun k => tp.2 (sT tp s.1 + k)) i)) u) (fun i u => fr [1] [] [] [] ν u ∧ u.1 1 = nI (sT tp s.1 + i)) (min (zS tp s) 4) ?_ ?_ N 0 ν (Nat.zero_le _) (by omega) ⟨fr_r, a1'⟩
  · intro f u hu
    show b_X12_number_49 N (w_X12_number_49 N Q f) Q (0 : Int32) (nI lim) (nI (sT tp s.1)) (nI (nuR (fun k => tp.2 (sT tp s.1 + k)) (min (zS tp s) 4))) u
    have hTu := mTp_f hu.1 (by decide) (by decide) hTν
    have hv4 := vT_4 hk
    rw [← hvT]
    have f2 : fr [1, 3, 4, 5] [] [] [] μ u := fr_t (fr_w f1 (subl rfl) (subl rfl) (subl rfl) (subl rfl)) (fr_w hu.1 (subl rfl) (subl rfl) (subl rfl) (subl rfl))
    have u4 : u.1 4 = 0 := by rw [hu.1.1 4 (by decide)]; exact p1.2.1
    have u5 : u.1 5 = -1 := by rw [hu.1.1 5 (by decide)]; exact p1.2.2.2.2
    by_cases c4 : zS tp s ≤ 4
    · have eu : u.1 1 = nI (eT tp (sT tp s.1)) := by rw [hu.2, show sT tp s.1 + min (zS tp s) 4 = eT tp (sT tp s.1) by omega]
      have g129 : b_X12_number_129 N Q (0 : Int32) (nI lim) (nI (sT tp s.1)) (nI (vT tp s.1)) u := by
        unfold b_X12_number_129
        refine nm_e (m_isIn ?_)
        rw [nI_l (by omega), nI_l hl, show (0 : Int32).toInt64 = lN 0 by decide]
        have e1 : (decide (lN 0 ≤ lN (vT tp s.1)) && decide (lN (vT tp s.1) ≤ lN lim)) = decide (vT tp s.1 ≤ lim) := by
          rw [decide_eq_true ((lN_le (by decide) (by omega)).mpr (Nat.zero_le _)), Bool.true_and]
          exact decide_eq_decide.mpr (lN_le (by omega) hl)
        rw [e1]
        refine ⟨fun w => ?_, fun w => ?_⟩
        · have w := of_decide_eq_false (b32_0.mp w)
          have e : nuP tp lim s = .error (2, sT tp s.1) := by unfold nuP; rw [if_pos hk, if_pos c4, if_neg w]
          exact m_fl (k := 2) u4 (fun υ f3 b3 => h2 _ _ υ e (fr_t (fr_I f2 (by decide)) (fr_w f3 (subl rfl) (subl rfl) (subl rfl) (subl rfl))) b3)
        · have w := of_decide_eq_true (b32_n.mp w)
          have e : nuP tp lim s = .ok (vT tp s.1) := by unfold nuP; rw [if_pos hk, if_pos c4, if_pos w]
          refine h1 _ _ e (fr_I (fr_t (fr_w f1 (subl rfl) (subl rfl) (subl rfl) (subl rfl)) (fr_w hu.1 (subl rfl) (subl rfl) (subl rfl) (subl rfl))) (by decide)) (mPos_n h8 (dB_lt hd) u4 u5 eu ?_)
          show mEn _ _ (wnB tp (sT tp s.1))
          rw [hwn]
          exact eu
      have hn : dB tp (eT tp (sT tp s.1)) = false := by rw [heE]; exact enF_o (dP h8) _
      unfold b_X12_number_49
      rw [eu, hTu.2.1, nI_leI (by omega) (by omega), nI_clamp (n := eT tp (sT tp s.1)) (by omega)]
      refine ⟨fun _ => g129, fun w => ⟨vp_in_nI (by omega) (by decide), ?_⟩⟩
      rw [m_tp hTu (by omega)]
      exact m_digit hb (by rw [hn]; exact br_t rfl g129)
    · have eu : u.1 1 = nI (sT tp s.1 + 4) := by rw [hu.2, show min (zS tp s) 4 = 4 by omega]
      have hdk : dB tp (sT tp s.1 + 4) = true := enF_in (P := dB tp) (p := sT tp s.1) (by omega) (by omega)
      have e : nuP tp lim s = .error (1, sT tp s.1 + 4) := by unfold nuP; rw [if_pos hk, if_neg c4]
      unfold b_X12_number_49
      rw [eu, hTu.2.1, nI_leI (by omega) (by omega), nI_clamp (n := sT tp s.1 + 4) (by omega), m_tp hTu (by omega)]
      refine br_f (by omega) ⟨vp_in_nI (by omega) (by decide), m_digit hb ?_⟩
      rw [hdk, eu, pk_sub (by omega), show sT tp s.1 + 4 - sT tp s.1 = 4 by omega]
      exact br_f (by decide) (br_t rfl (m_fl (k := 1) u4 (fun υ f3 b3 => h2 _ _ υ e (fr_t f2 (fr_w f3 (subl rfl) (subl rfl) (subl rfl) (subl rfl))) b3)))
  · intro f i u hi hu ih
    show b_X12_number_49 N (w_X12_number_49 N Q f) Q (0 : Int32) (nI lim) (nI (sT tp s.1)) (nI (nuR (fun k => tp.2 (sT tp s.1 + k)) i)) u
    have hTu := mTp_f hu.1 (by decide) (by decide) hTν
    have hdk : dB tp (sT tp s.1 + i) = true := enF_in (P := dB tp) (p := sT tp s.1) (by omega) (by omega)
    have hri := hr i (by omega)
    unfold b_X12_number_49
    rw [hu.2, hTu.2.1, nI_leI (by omega) (by omega), nI_clamp (n := sT tp s.1 + i) (by omega), m_tp hTu (by omega)]
    refine br_f (by omega) ⟨vp_in_nI (by omega) (by decide), m_digit hb ?_⟩
    have ne4 : ¬ nI i = (4 : Int32) := fun z => by have z : nI i = nI 4 := z; rw [nI_eq (by omega) (by decide)] at z; omega
    rw [hdk, hu.2, pk_sub (by omega), show sT tp s.1 + i - sT tp s.1 = i by omega, nI_clamp (n := sT tp s.1 + i) (by omega), (hTu.2.2 (sT tp s.1 + i) (by omega)).2, nI_1]
    refine br_f (by decide) (br_f ne4 ⟨vp_in_nI (by omega) (by decide), nm_e (nm_e ?_)⟩)
    rw [show (10 : Int32) = nI 10 from rfl, show (48 : Int32) = nI 48 from rfl, pk_mul, nI_add, pk_sub (by omega), show 10 * nuR (fun k => tp.2 (sT tp s.1 + k)) i + tp.2 (sT tp s.1 + i) - 48 = nuR (fun k => tp.2 (sT tp s.1 + k)) (i + 1) by rw [nuR]; omega]
    exact ih _ ⟨fr_I hu.1 (by decide), zI_1s⟩
theorem own_y (h : Q 1 μ) : b_X12_isOwnHere_110 N Q μ := by
  unfold b_X12_isOwnHere_110 b_X12_isOwnHere_115
  exact br_f (by decide) h
theorem m_ownH (hN : 1100 < N) (hT : mTape μ tp) (h : mPos μ tp p g) (hQ : ∀ ν, fr [1] [] [] [] μ ν → mAt ν tp p → mPos ν tp p g → Q (b32 (decide (¬ wT tp p g = 99))) ν) : w_X12_isOwnHere N μ Q := by
  have yes : ∀ w, w < 19 → decide (wT tp p g = w) = true → ∀ ν, fr [1] [] [] [] μ ν → mAt ν tp p → mPos ν tp p g → Q 1 ν := fun w hw e ν f1 a1 p1 => by
    have e := of_decide_eq_true e
    have hq := hQ ν f1 a1 p1
    rw [decide_eq_true (show ¬ wT tp p g = 99 by omega)] at hq
    exact hq
  unfold w_X12_isOwnHere
  refine m_isHere (w := 0) hN (by decide) hT h (fun ν0 f0 a0 p0 => ⟨fun z0 => ?_, fun z0 => own_y (yes 0 (by decide) (b32_n.mp z0) ν0 f0 a0 p0)⟩)
  have g0 : fr [1] [] [] [] μ ν0 := f0
  have n0 : ¬ wT tp p g = 0 := of_decide_eq_false (b32_0.mp z0)
  have T0 := mTp_f g0 (by decide) (by decide) hT
  refine m_isHere (w := 1) hN (by decide) T0 p0 (fun ν1 f1 a1 p1 => ⟨fun z1 => ?_, fun z1 => own_y (yes 1 (by decide) (b32_n.mp z1) ν1 (fr_t g0 f1) a1 p1)⟩)
  have g1 : fr [1] [] [] [] μ ν1 := (fr_t g0 f1)
  have n1 : ¬ wT tp p g = 1 := of_decide_eq_false (b32_0.mp z1)
  have T1 := mTp_f g1 (by decide) (by decide) hT
  refine m_isHere (w := 2) hN (by decide) T1 p1 (fun ν2 f2 a2 p2 => ⟨fun z2 => ?_, fun z2 => own_y (yes 2 (by decide) (b32_n.mp z2) ν2 (fr_t g1 f2) a2 p2)⟩)
  have g2 : fr [1] [] [] [] μ ν2 := (fr_t g1 f2)
  have n2 : ¬ wT tp p g = 2 := of_decide_eq_false (b32_0.mp z2)
  have T2 := mTp_f g2 (by decide) (by decide) hT
  refine m_isHere (w := 3) hN (by decide) T2 p2 (fun ν3 f3 a3 p3 => ⟨fun z3 => ?_, fun z3 => own_y (yes 3 (by decide) (b32_n.mp z3) ν3 (fr_t g2 f3) a3 p3)⟩)
  have g3 : fr [1] [] [] [] μ ν3 := (fr_t g2 f3)
  have n3 : ¬ wT tp p g = 3 := of_decide_eq_false (b32_0.mp z3)
  have T3 := mTp_f g3 (by decide) (by decide) hT
  refine m_isHere (w := 4) hN (by decide) T3 p3 (fun ν4 f4 a4 p4 => ⟨fun z4 => ?_, fun z4 => own_y (yes 4 (by decide) (b32_n.mp z4) ν4 (fr_t g3 f4) a4 p4)⟩)
  have g4 : fr [1] [] [] [] μ ν4 := (fr_t g3 f4)
  have n4 : ¬ wT tp p g = 4 := of_decide_eq_false (b32_0.mp z4)
  have T4 := mTp_f g4 (by decide) (by decide) hT
  refine m_isHere (w := 5) hN (by decide) T4 p4 (fun ν5 f5 a5 p5 => ⟨fun z5 => ?_, fun z5 => own_y (yes 5 (by decide) (b32_n.mp z5) ν5 (fr_t g4 f5) a5 p5)⟩)
  have g5 : fr [1] [] [] [] μ ν5 := (fr_t g4 f5)
  have n5 : ¬ wT tp p g = 5 := of_decide_eq_false (b32_0.mp z5)
  have T5 := mTp_f g5 (by decide) (by decide) hT
  refine m_isHere (w := 6) hN (by decide) T5 p5 (fun ν6 f6 a6 p6 => ⟨fun z6 => ?_, fun z6 => own_y (yes 6 (by decide) (b32_n.mp z6) ν6 (fr_t g5 f6) a6 p6)⟩)
  have g6 : fr [1] [] [] [] μ ν6 := (fr_t g5 f6)
  have n6 : ¬ wT tp p g = 6 := of_decide_eq_false (b32_0.mp z6)
  have T6 := mTp_f g6 (by decide) (by decide) hT
  refine m_isHere (w := 7) hN (by decide) T6 p6 (fun ν7 f7 a7 p7 => ⟨fun z7 => ?_, fun z7 => own_y (yes 7 (by decide) (b32_n.mp z7) ν7 (fr_t g6 f7) a7 p7)⟩)
  have g7 : fr [1] [] [] [] μ ν7 := (fr_t g6 f7)
  have n7 : ¬ wT tp p g = 7 := of_decide_eq_false (b32_0.mp z7)
  have T7 := mTp_f g7 (by decide) (by decide) hT
  refine m_isHere (w := 8) hN (by decide) T7 p7 (fun ν8 f8 a8 p8 => ⟨fun z8 => ?_, fun z8 => own_y (yes 8 (by decide) (b32_n.mp z8) ν8 (fr_t g7 f8) a8 p8)⟩)
  have g8 : fr [1] [] [] [] μ ν8 := (fr_t g7 f8)
  have n8 : ¬ wT tp p g = 8 := of_decide_eq_false (b32_0.mp z8)
  have T8 := mTp_f g8 (by decide) (by decide) hT
  refine m_isHere (w := 9) hN (by decide) T8 p8 (fun ν9 f9 a9 p9 => ⟨fun z9 => ?_, fun z9 => own_y (yes 9 (by decide) (b32_n.mp z9) ν9 (fr_t g8 f9) a9 p9)⟩)
  have g9 : fr [1] [] [] [] μ ν9 := (fr_t g8 f9)
  have n9 : ¬ wT tp p g = 9 := of_decide_eq_false (b32_0.mp z9)
  unfold b_X12_isOwnHere_115
  refine br_t rfl ?_
  have T9 := mTp_f g9 (by decide) (by decide) hT
  refine m_isHere (w := 10) hN (by decide) T9 p9 (fun ν10 f10 a10 p10 => ⟨fun z10 => ?_, fun z10 => yes 10 (by decide) (b32_n.mp z10) ν10 (fr_t g9 f10) a10 p10⟩)
  have g10 : fr [1] [] [] [] μ ν10 := (fr_t g9 f10)
  have n10 : ¬ wT tp p g = 10 := of_decide_eq_false (b32_0.mp z10)
  have T10 := mTp_f g10 (by decide) (by decide) hT
  refine m_isHere (w := 11) hN (by decide) T10 p10 (fun ν11 f11 a11 p11 => ⟨fun z11 => ?_, fun z11 => yes 11 (by decide) (b32_n.mp z11) ν11 (fr_t g10 f11) a11 p11⟩)
  have g11 : fr [1] [] [] [] μ ν11 := (fr_t g10 f11)
  have n11 : ¬ wT tp p g = 11 := of_decide_eq_false (b32_0.mp z11)
  have T11 := mTp_f g11 (by decide) (by decide) hT
  refine m_isHere (w := 12) hN (by decide) T11 p11 (fun ν12 f12 a12 p12 => ⟨fun z12 => ?_, fun z12 => yes 12 (by decide) (b32_n.mp z12) ν12 (fr_t g11 f12) a12 p12⟩)
  have g12 : fr [1] [] [] [] μ ν12 := (fr_t g11 f12)
  have n12 : ¬ wT tp p g = 12 := of_decide_eq_false (b32_0.mp z12)
  have T12 := mTp_f g12 (by decide) (by decide) hT
  refine m_isHere (w := 13) hN (by decide) T12 p12 (fun ν13 f13 a13 p13 => ⟨fun z13 => ?_, fun z13 => yes 13 (by decide) (b32_n.mp z13) ν13 (fr_t g12 f13) a13 p13⟩)
  have g13 : fr [1] [] [] [] μ ν13 := (fr_t g12 f13)
  have n13 : ¬ wT tp p g = 13 := of_decide_eq_false (b32_0.mp z13)
  have T13 := mTp_f g13 (by decide) (by decide) hT
  refine m_isHere (w := 14) hN (by decide) T13 p13 (fun ν14 f14 a14 p14 => ⟨fun z14 => ?_, fun z14 => yes 14 (by decide) (b32_n.mp z14) ν14 (fr_t g13 f14) a14 p14⟩)
  have g14 : fr [1] [] [] [] μ ν14 := (fr_t g13 f14)
  have n14 : ¬ wT tp p g = 14 := of_decide_eq_false (b32_0.mp z14)
  have T14 := mTp_f g14 (by decide) (by decide) hT
  refine m_isHere (w := 15) hN (by decide) T14 p14 (fun ν15 f15 a15 p15 => ⟨fun z15 => ?_, fun z15 => yes 15 (by decide) (b32_n.mp z15) ν15 (fr_t g14 f15) a15 p15⟩)
  have g15 : fr [1] [] [] [] μ ν15 := (fr_t g14 f15)
  have n15 : ¬ wT tp p g = 15 := of_decide_eq_false (b32_0.mp z15)
  have T15 := mTp_f g15 (by decide) (by decide) hT
  refine m_isHere (w := 16) hN (by decide) T15 p15 (fun ν16 f16 a16 p16 => ⟨fun z16 => ?_, fun z16 => yes 16 (by decide) (b32_n.mp z16) ν16 (fr_t g15 f16) a16 p16⟩)
  have g16 : fr [1] [] [] [] μ ν16 := (fr_t g15 f16)
  have n16 : ¬ wT tp p g = 16 := of_decide_eq_false (b32_0.mp z16)
  have T16 := mTp_f g16 (by decide) (by decide) hT
  refine m_isHere (w := 17) hN (by decide) T16 p16 (fun ν17 f17 a17 p17 => ⟨fun z17 => ?_, fun z17 => yes 17 (by decide) (b32_n.mp z17) ν17 (fr_t g16 f17) a17 p17⟩)
  have g17 : fr [1] [] [] [] μ ν17 := (fr_t g16 f17)
  have n17 : ¬ wT tp p g = 17 := of_decide_eq_false (b32_0.mp z17)
  have T17 := mTp_f g17 (by decide) (by decide) hT
  refine m_isHere (w := 18) hN (by decide) T17 p17 (fun ν18 f18 a18 p18 => ⟨fun z18 => ?_, fun z18 => yes 18 (by decide) (b32_n.mp z18) ν18 (fr_t g17 f18) a18 p18⟩)
  have g18 : fr [1] [] [] [] μ ν18 := (fr_t g17 f18)
  have n18 : ¬ wT tp p g = 18 := of_decide_eq_false (b32_0.mp z18)
  have T18 := mTp_f g18 (by decide) (by decide) hT
  have e99 : wT tp p g = 99 := by
    by_cases c : wT tp p g = 99
    · exact c
    · have := (wT_lt c).1; omega
  have hq := hQ ν18 g18 a18 p18
  rw [decide_eq_false (fun z => z e99)] at hq
  exact hq
theorem m_name {Q : Int64 → zSt → Prop} (hN : 1100 < N) (hT : mTape μ tp) (h : mPos μ tp s.1 s.2.1) (h1 : ∀ v ν, naP tp s = .ok v → nmOk v → fr [1, 3, 8] [] [] [] μ ν → mPos ν tp (nxP tp s).1 (nxP tp s).2.1 → ν.1 8 = nI (sT tp s.1) → Q (lN (mNa v)) ν) (h2 : ∀ e ν, naP tp s = .error e → fr [1, 3, 4, 5, 8] [] [] [] μ ν → mBd ν e → Q 0 ν) : w_X12_name N μ Q := by
  have h8 := hT.1
  have hb := mTp_b hT
  have hs := sT_le h.1
  unfold w_X12_name
  refine br_t h.2.1 (m_look hN hT h (fun ν f1 a1 p1 => m_letter hb ?_))
  have a1' : ν.1 1 = nI (sT tp s.1) := a1
  have bad : ∀ ν, fr [1] [] [] [] μ ν → mPos ν tp s.1 s.2.1 → ν.1 1 = nI (sT tp s.1) → ¬ (kS tp s = 1 ∧ wS tp s = 99) → b_X12_name_37 N Q ν := fun ν f1 p1 a1 c => by
    have e : naP tp s = .error (1, sT tp s.1) := by unfold naP; rw [if_neg c]
    unfold b_X12_name_37
    rw [a1]
    exact m_fl (k := 1) p1.2.1 (fun υ f2 b2 => h2 _ υ e (fr_t (fr_w f1 (subl rfl) (subl rfl) (subl rfl) (subl rfl)) (fr_w f2 (subl rfl) (subl rfl) (subl rfl) (subl rfl))) b2)
  rw [a1', en_i p1.2.2.2.1 (by omega)]
  refine ⟨fun z => bad ν f1 p1 a1' (fun c => by rw [(kT_1 c.1).1] at z; exact absurd z (by decide)), fun z => ⟨fun y => bad ν f1 p1 a1' (fun c => (kT_1 c.1).2 y), fun y => ?_⟩⟩
  have hl := b32_n.mp z
  have hk : kS tp s = 1 := by show kT tp s.1 s.2.1 = 1; rw [kT_l hl, if_neg y]
  have hTν := mTp_f f1 (by decide) (by decide) hT
  have hE := eT_le (tp := tp) hs
  have hg := eT_gt h8 (lB_lt hl)
  refine m_ownH hN hTν p1 (fun υ f2 a2 p2 => ?_)
  have f12 : fr [1] [] [] [] μ υ := fr_t f1 f2
  have hsw : sT tp s.1 < tp.1 := lB_lt hl
  -- the place, whichever word was looked for last
  by_cases c99 : wS tp s = 99
  · have a2' : υ.1 1 = nI (sT tp s.1) := a2
    rw [decide_eq_false (show ¬ ¬ wT tp s.1 s.2.1 = 99 from fun q => q c99)]
    refine br_t rfl (nm_e ?_)
    rw [a2']
    have hTυ := mTp_f f12 (by decide) (by decide) hT
    have hr := run_l hl
    have heE : eT tp (sT tp s.1) = enF (lB tp) (sT tp s.1) := eT_l hl
    have hz : zS tp s = eT tp (sT tp s.1) - sT tp s.1 := rfl
    have hwn : wnB tp (sT tp s.1) = true := by unfold wnB; rw [hl]; rfl
    have hd : ∀ k, k < min (zS tp s) 6 → 1 ≤ (fun k => tp.2 (sT tp s.1 + k) - 96) k ∧ (fun k => tp.2 (sT tp s.1 + k) - 96) k ≤ 26 := fun k hk => by
      have := hr k (by omega)
      show 1 ≤ tp.2 (sT tp s.1 + k) - 96 ∧ tp.2 (sT tp s.1 + k) - 96 ≤ 26
      omega
    refine loopU (fun f i (u : zSt) => w_X12_name_58 N Q f (lN (hD (fun k => tp.2 (sT tp s.1 + k) - 96) i)) u) (fun i u => fr [1, 8] [] [] [] μ u ∧ u.1 8 = nI (sT tp s.1) ∧ u.1 1 = nI (sT tp s.1 + i)) (min (zS tp s) 6) ?_ ?_ N 0 _ (Nat.zero_le _) (by omega) ⟨fr_I (fr_w f12 (subl rfl) (subl rfl) (subl rfl) (subl rfl)) (by decide), rfl, a2'⟩
    · intro f u hu
      show b_X12_name_58 N (w_X12_name_58 N Q f) Q (lN (hD (fun k => tp.2 (sT tp s.1 + k) - 96) (min (zS tp s) 6))) u
      have hTu := mTp_f hu.1 (by decide) (by decide) hT
      have u4 : u.1 4 = 0 := by rw [hu.1.1 4 (by decide)]; exact h.2.1
      have u5 : u.1 5 = -1 := by rw [hu.1.1 5 (by decide)]; exact h.2.2.2.2
      by_cases c6 : zS tp s ≤ 6
      · have eu : u.1 1 = nI (eT tp (sT tp s.1)) := by rw [hu.2.2, show sT tp s.1 + min (zS tp s) 6 = eT tp (sT tp s.1) by omega]
        have e : naP tp s = .ok (vT tp s.1) := by unfold naP; rw [if_pos ⟨hk, c99⟩, if_pos c6]
        have hv : vT tp s.1 = pkW (fun k => tp.2 (sT tp s.1 + k)) (zS tp s) := vT_l hl
        have hnm : nmOk (vT tp s.1) := by rw [hv]; exact pw_ok (by omega) c6 hr
        have em : lN (hD (fun k => tp.2 (sT tp s.1 + k) - 96) (min (zS tp s) 6)) = lN (mNa (vT tp s.1)) := by
          rw [hv, mNa_pk (by omega) c6 hr, Nat.min_eq_left c6]
        have fin : ∀ v, v = u.1 1 → Q (lN (hD (fun k => tp.2 (sT tp s.1 + k) - 96) (min (zS tp s) 6))) (zI u 3 v) := fun v hv3 => by
          rw [em]
          refine h1 _ _ e hnm (fr_I (fr_w hu.1 (subl rfl) (subl rfl) (subl rfl) (subl rfl)) (by decide)) (mPos_n h8 hsw u4 u5 eu ?_) hu.2.1
          show mEn _ _ (wnB tp (sT tp s.1))
          rw [hwn]
          show v = nI (eT tp (sT tp s.1))
          rw [hv3]; exact eu
        have hn : lB tp (eT tp (sT tp s.1)) = false := by rw [heE]; exact enF_o (lP h8) _
        unfold b_X12_name_58
        refine ⟨fun _ => nm_e (fin _ rfl), fun w => ?_⟩
        rw [eu, hTu.2.1, nI_leI (by omega) (by omega)] at w
        rw [eu, nI_clamp (n := eT tp (sT tp s.1)) (by omega), m_tp hTu (by omega)]
        refine ⟨vp_in_nI (by omega) (by decide), m_letter hb ?_⟩
        rw [hn]
        exact br_t rfl (nm_e (fin _ rfl))
      · have eu : u.1 1 = nI (sT tp s.1 + 6) := by rw [hu.2.2, show min (zS tp s) 6 = 6 by omega]
        have hdk : lB tp (sT tp s.1 + 6) = true := enF_in (P := lB tp) (p := sT tp s.1) (by omega) (by omega)
        have e : naP tp s = .error (1, sT tp s.1 + 6) := by unfold naP; rw [if_pos ⟨hk, c99⟩, if_neg c6]
        unfold b_X12_name_58
        rw [eu, hTu.2.1, nI_leI (by omega) (by omega), nI_clamp (n := sT tp s.1 + 6) (by omega), m_tp hTu (by omega)]
        refine br_f (by omega) ⟨vp_in_nI (by omega) (by decide), m_letter hb ?_⟩
        rw [hdk, eu, hu.2.1, pk_sub (by omega), show sT tp s.1 + 6 - sT tp s.1 = 6 by omega]
        exact br_f (by decide) (br_t rfl (m_fl (k := 1) u4 (fun υ f3 b3 => h2 _ υ e (fr_t (fr_w hu.1 (subl rfl) (subl rfl) (subl rfl) (subl rfl)) (fr_w f3 (subl rfl) (subl rfl) (subl rfl) (subl rfl))) b3)))
    · intro f i u hi hu ih
      show b_X12_name_58 N (w_X12_name_58 N Q f) Q (lN (hD (fun k => tp.2 (sT tp s.1 + k) - 96) i)) u
      have hTu := mTp_f hu.1 (by decide) (by decide) hT
      have hdk : lB tp (sT tp s.1 + i) = true := enF_in (P := lB tp) (p := sT tp s.1) (by omega) (by omega)
      have hri := hr i (by omega)
      have h6 := hD_6 hd (Nat.min_le_right _ _) (show i ≤ min (zS tp s) 6 by omega)
      unfold b_X12_name_58
      rw [hu.2.2, hTu.2.1, nI_leI (by omega) (by omega), nI_clamp (n := sT tp s.1 + i) (by omega), m_tp hTu (by omega)]
      refine br_f (by omega) ⟨vp_in_nI (by omega) (by decide), m_letter hb ?_⟩
      have ne6 : ¬ nI i = (6 : Int32) := fun z => by have z : nI i = nI 6 := z; rw [nI_eq (by omega) (by decide)] at z; omega
      rw [hdk, hu.2.2, hu.2.1, pk_sub (by omega), show sT tp s.1 + i - sT tp s.1 = i by omega, nI_clamp (n := sT tp s.1 + i) (by omega), (hTu.2.2 (sT tp s.1 + i) (by omega)).2, nI_1]
      refine br_f (by decide) (br_f ne6 ⟨vp_in_nI (by omega) (by decide), nm_e (nm_e ?_)⟩)
      rw [nI_l (by omega), show (27 : Int64) = lN 27 from rfl, show (97 : Int64) = lN 97 from rfl, show (1 : Int64) = lN 1 from rfl, lN_mul, lN_add, lN_sub (by omega), lN_add, show 27 * hD (fun k => tp.2 (sT tp s.1 + k) - 96) i + tp.2 (sT tp s.1 + i) - 97 + 1 = hD (fun k => tp.2 (sT tp s.1 + k) - 96) (i + 1) by rw [hD]; omega]
      exact ih _ ⟨fr_I hu.1 (by decide), hu.2.1, zI_1s⟩
  · rw [decide_eq_true (show ¬ wT tp s.1 s.2.1 = 99 from c99)]
    refine br_f (by decide) ?_
    exact bad υ f12 p2 a2 (fun c => c99 c.2)
end mn
