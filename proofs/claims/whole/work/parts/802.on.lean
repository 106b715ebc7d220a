/-! an image is taken -/
def nbB (f : Nat → Nat) (a : Nat) : Nat → Nat
  | 0 => 0
  | j + 1 => nbB f a j * 256 + f (a + j)
theorem nbB_lt {f : Nat → Nat} {a : Nat} : ∀ j, (∀ i, i < j → f (a + i) < 256) → nbB f a j < 256 ^ j
  | 0, _ => by show 0 < 1; decide
  | j + 1, h => by
    have h1 := nbB_lt j (fun i hi => h i (by omega))
    have h2 := h j (by omega)
    rw [nbB, Nat.pow_succ]
    omega
def onB (l : zL) (tp : Nat × (Nat → Nat)) : Bool := decide (tp.1 = 10) && (decide (tp.2 0 = lPn l) && (decide (xrB tp.2 9 = tp.2 9) && (decide (nbB tp.2 1 6 < 2 ^ lPc l) && (mayv l (nbB tp.2 1 6) && decide (nbB tp.2 7 2 ≤ 2000)))))
def onN (l : zL) (tp : Nat × (Nat → Nat)) (net : Nat) : Nat := if onB l tp = true then nbB tp.2 1 6 else net
def onE (l : zL) (tp : Nat × (Nat → Nat)) (x : Int32) : Int32 := if onB l tp = true then nI (nbB tp.2 7 2) - 1000 else x
theorem xor_z {a b : Nat} : a ^^^ b = 0 ↔ a = b := by
  constructor
  · intro h
    apply bit_ext
    intro j
    have : (a ^^^ b).testBit j = false := by rw [h, Nat.zero_testBit]
    rw [Nat.testBit_xor] at this
    cases ha : a.testBit j <;> cases hb : b.testBit j <;> simp [ha, hb] at this ⊢
  · intro h
    subst h
    exact Nat.xor_self a
theorem ext_n {e : Nat} (h : e ≤ 2000) : exI (nI e - 1000) := by
  have : (nI e - 1000).toInt = (e : Int) - 1000 := pk_sub_toInt (b := 1000) (by omega) (by omega)
  unfold exI
  omega
section on
variable {N : Nat} {σ τ μ ν : zSt} {tp : Nat × (Nat → Nat)} {fa : Int32 × Int32} {l : zL} {net : Nat} {x : Int32} {ba rg : Nat → Int64} {ls : Nat × (Nat → Int64)} {cm : Nat × (Nat → Int64) × (Nat → Int32)} {li : Int64} {oc : Nat → Int32}
theorem x_num {a j : Nat} {Q : Int64 → zSt → Prop} (hN : 1100 < N) (h : xTp σ tp) (ha : a + j ≤ tp.1) (hQ : Q (lN (nbB tp.2 a j)) σ) : w_X7_number N (nI a) (nI (a + j)) σ Q := by
  have h8 := h.1
  refine loopU (S := Unit) (fun f i _ => w_X7_number_5 N Q f (nI (a + j)) (lN (nbB tp.2 a i)) (nI (a + i)) σ) (fun _ _ => True) j ?_ ?_ N 0 () (Nat.zero_le _) (by omega) trivial
  · intro f _ _
    show b_X7_number_5 N (w_X7_number_5 N Q f) Q (nI (a + j)) (lN (nbB tp.2 a j)) (nI (a + j)) σ
    unfold b_X7_number_5
    exact br_t (nI_le (Nat.le_refl _) (by omega)) hQ
  · intro f i _ hi _ ih
    show b_X7_number_5 N (w_X7_number_5 N Q f) Q (nI (a + j)) (lN (nbB tp.2 a i)) (nI (a + i)) σ
    unfold b_X7_number_5
    have hb := h.2.2 (a + i) (by omega)
    rw [h.2.1, nI_clamp (n := a + i) (by omega), hb.2, nI_l (by omega), show (256 : Int64) = lN 256 from rfl, lN_mul, lN_add, nI_1]
    exact br_f (nI_ge (by omega) (by omega)) (br_f (nI_ge (by omega) (by omega)) (br_f (nI_ge (b := 800) (by omega) (by omega)) ⟨vp_in_nI (by omega) (by decide), nm_e (nm_e (ih () trivial))⟩))
theorem x_xor {Q : Int32 → zSt → Prop} (hN : 1100 < N) (h : xTp σ tp) (hQ : Q (nI (xrB tp.2 tp.1)) σ) : w_X7_xorOfAll N σ Q := by
  have h8 := h.1
  refine loopU (S := Unit) (fun f i _ => w_X7_xorOfAll_4 N Q f (nI (xrB tp.2 i)) (nI i) σ) (fun _ _ => True) tp.1 ?_ ?_ N 0 () (Nat.zero_le _) (by omega) trivial
  · intro f _ _
    show b_X7_xorOfAll_4 N (w_X7_xorOfAll_4 N Q f) Q (nI (xrB tp.2 tp.1)) (nI tp.1) σ
    unfold b_X7_xorOfAll_4
    rw [h.2.1]
    exact br_t (nI_le (Nat.le_refl _) (by omega)) hQ
  · intro f i _ hi _ ih
    show b_X7_xorOfAll_4 N (w_X7_xorOfAll_4 N Q f) Q (nI (xrB tp.2 i)) (nI i) σ
    unfold b_X7_xorOfAll_4
    rw [h.2.1, nI_clamp (n := i) (by omega), (h.2.2 i hi).2, fb_xorI, nI_1]
    exact br_f (nI_ge hi (by omega)) (br_f (nI_ge (b := 800) (by omega) (by omega)) ⟨vp_in_nI (by omega) (by decide), nm_e (nm_e (ih () trivial))⟩)
theorem X_tape0 (h : XR σ tp fa l net x ba rg ls cm li oc) : XR (zI σ 0 0) ((0, tp.2)) fa l net x ba rg ls cm li oc := by
  obtain ⟨b1, b2, b3, b4, b5, b6, b7, b8, b9, b10, b11, b12⟩ := h
  exact ⟨⟨Nat.zero_le _, zI_1s, fun k hk => absurd hk (Nat.not_lt_zero _)⟩, b2, xG_fr (I := [0]) (J := []) (A := []) (B := []) (fr_I fr_r (by decide)) (notin rfl) (notin rfl) (notin rfl) (notin rfl) b3, b4, b5, b6, b7, b8, b9, b10, b11, b12⟩
theorem X_on {Q : Int32 → zSt → Prop} (hN : 1100 < N) (h : XR σ tp fa l net x ba rg ls cm li oc) (hQ : ∀ τ, XR τ ((0, tp.2)) fa l (onN l tp net) (onE l tp x) ba rg ls cm li oc → Q (b32 (onB l tp)) τ) : w_X11_on N σ Q := by
  obtain ⟨b1, b2, b3, b4, b5, b6, b7, b8, b9, b10, b11, b12⟩ := id h
  have h10 := b3.1.1
  have hpc := pc_le h10
  have eo : onB l tp = (decide (tp.1 = 10) && (decide (tp.2 0 = lPn l) && (decide (xrB tp.2 9 = tp.2 9) && (decide (nbB tp.2 1 6 < 2 ^ lPc l) && (mayv l (nbB tp.2 1 6) && decide (nbB tp.2 7 2 ≤ 2000)))))) := rfl
  have no : onB l tp = false → b_X11_on_79 N Q σ := fun hf => by
    unfold b_X11_on_79
    unfold onN onE at hQ
    rw [hf, if_neg (by decide), if_neg (by decide)] at hQ
    exact nm_e (hQ _ (X_tape0 h))
  unfold w_X11_on
  rw [b1.2.1]
  have h8 := b1.1
  refine ⟨fun q => ?_, fun q => no ?_⟩
  · have q : tp.1 = 10 := (nI_eq (b := 10) (by omega) (by omega)).mp q
    have hby : ∀ i, i < 10 → tp.2 i < 256 := fun i hi => (b1.2.2 i (by omega)).1
    refine x_xor hN b1 ?_
    rw [q]
    have hx10 : xrB tp.2 10 = xrB tp.2 9 ^^^ tp.2 9 := rfl
    have hxl : xrB tp.2 10 < 256 := xrB_lt 10 hby
    refine ⟨fun z => ?_, fun z => no ?_⟩
    · have z : xrB tp.2 9 = tp.2 9 := by
        have := (nI_eq (b := 0) (by omega) (by omega)).mp z
        rw [hx10] at this
        exact xor_z.mp this
      refine x_num (a := 0) (j := 1) hN b1 (by omega) ?_
      have e1 : nbB tp.2 0 1 = tp.2 0 := by
        show 0 * 256 + tp.2 0 = tp.2 0
        omega
      have h0 := hby 0 (by omega)
      rw [e1, b3.2.2.1.1, nI_l (by omega), lg_cmp_eq, fb_lN_inj (by omega) (by omega)]
      refine ⟨fun z2 => ?_, fun z2 => no ?_⟩
      · refine x_num (a := 1) (j := 6) hN b1 (by omega) (x_num (a := 7) (j := 2) hN b1 (by omega) ?_)
        have hn6 : nbB tp.2 1 6 < 256 ^ 6 := nbB_lt 6 (fun i hi => hby _ (by omega))
        have hn2 : nbB tp.2 7 2 < 256 ^ 2 := nbB_lt 2 (fun i hi => hby _ (by omega))
        have hn6 : nbB tp.2 1 6 < 281474976710656 := hn6
        have hn2 : nbB tp.2 7 2 < 65536 := hn2
        rw [decide_eq_true q, decide_eq_true z2, decide_eq_true z] at eo
        unfold w_X11_takeImage
        have e3 : (1000 : Int64) < lN (nbB tp.2 7 2) - 1000 ↔ ¬ nbB tp.2 7 2 ≤ 2000 := by
          have i1 : (1000 : Int64).toInt = 1000 := by decide
          have i2 : (lN (nbB tp.2 7 2)).toInt = (nbB tp.2 7 2 : Int) := pf_lI (by omega)
          rw [fa_lt64, fb_subL (by rw [i1, i2]; omega) (by rw [i1, i2]; omega), i1, i2]
          omega
        have hp46 : 2 ^ lPc l < 2 ^ 46 := p2lt (show lPc l < 46 by omega)
        rw [lg_cmp_gt, e3]
        refine ⟨fun y => br_t rfl (no ?_), fun y => ?_⟩
        · rw [eo, decide_eq_false y]; simp
        · have y : nbB tp.2 7 2 ≤ 2000 := by omega
          unfold w_X4_isNet
          rw [b3.2.2.1.2.1, oneJ (by omega), lg_cmp_lt, lg_cmp_ge, pk_lLE (by omega) (by omega)]
          refine br_f (fun w => ?_) ⟨fun w => br_t rfl (br_t rfl (no ?_)), fun w => br_f (by decide) (x_may (by omega) b3 (by omega) ⟨fun w2 => br_t rfl (no ?_), fun w2 => ?_⟩)⟩
          · rw [show (0 : Int64) = lN 0 from rfl, pk_lLT (by omega) (by omega)] at w
            exact absurd w (Nat.not_lt_zero _)
          · rw [eo, decide_eq_false (show ¬ nbB tp.2 1 6 < 2 ^ lPc l by omega)]; rfl
          · rw [eo, b32_0.mp w2]; simp
          · have hm : mayv l (nbB tp.2 1 6) = true := by
              cases hh : mayv l (nbB tp.2 1 6) with
              | true => rfl
              | false => exact absurd (b32_0.mpr hh) w2
            rw [decide_eq_true (show nbB tp.2 1 6 < 2 ^ lPc l by omega), hm, decide_eq_true y] at eo
            have eo : onB l tp = true := eo
            unfold onN onE at hQ
            rw [eo, if_pos rfl, if_pos rfl] at hQ
            have e4 : (lN (nbB tp.2 7 2) - 1000).toInt32 = nI (nbB tp.2 7 2) - 1000 := by
              rw [Int64.toInt32_sub, lN_i]
              congr 1
            rw [e4]
            refine nm_e (nm_e (br_f (show ¬ (1 : Int32) = 0 by decide) (nm_e ?_)))
            have hX2 : XR (zJ σ 0 (lN (nbB tp.2 1 6))) tp fa l (nbB tp.2 1 6) x ba rg ls cm li oc := ⟨b1, b2, xG_fr (I := []) (J := [0]) (A := []) (B := []) (fr_J fr_r (by decide)) (notin rfl) (notin rfl) (notin rfl) (notin rfl) b3, b4, b5, ⟨by omega, zJ_2s⟩, b7, b8, b9, b10, b11, b12⟩
            exact hQ _ (X_tape0 (X_setx (ext_n y) hX2))
      · rw [eo, decide_eq_false z2]; simp
    · have z : ¬ xrB tp.2 9 = tp.2 9 := fun y => z (by rw [hx10, xor_z.mpr y]; rfl)
      rw [eo, decide_eq_false z]; simp
  · have q : ¬ tp.1 = 10 := fun z => q (by rw [z]; rfl)
    rw [eo, decide_eq_false q]; rfl
theorem M_tape0 (h : MR μ tp fa l net x ba rg ls cm li oc) : MR (zI μ 0 0) ((0, tp.2)) fa l net x ba rg ls cm li oc := by
  obtain ⟨b1, b2, b3, b4, b5, b6, b7, b8, b9, b10, b11, b12⟩ := h
  exact ⟨⟨Nat.zero_le _, zI_1s, fun k hk => absurd hk (Nat.not_lt_zero _)⟩, b2, mG_fr (I := [0]) (J := []) (A := []) (B := []) (fr_I fr_r (by decide)) (notin rfl) (by decide) (notin rfl) (notin rfl) b3, b4, b5, b6, b7, b8, b9, b10, b11, b12⟩
theorem M_on {Q : Int32 → zSt → Prop} (hN : 1100 < N) (h : MR μ tp fa l net x ba rg ls cm li oc) (hQ : ∀ ν, MR ν ((0, tp.2)) fa l (onN l tp net) (onE l tp x) ba rg ls cm li oc → Q (b32 (onB l tp)) ν) : w_X12_on N μ Q := by
  have hX0 := M_tape0 h
  obtain ⟨b1, b2, b3, b4, b5, b6, b7, b8, b9, b10, b11, b12⟩ := id h
  have h10 := b3.1.1
  have hpc := pc_le h10
  have eo : onB l tp = (decide (tp.1 = 10) && (decide (tp.2 0 = lPn l) && (decide (xrB tp.2 9 = tp.2 9) && (decide (nbB tp.2 1 6 < 2 ^ lPc l) && (mayv l (nbB tp.2 1 6) && decide (nbB tp.2 7 2 ≤ 2000)))))) := rfl
  have no : onB l tp = false → Q 0 (zI μ 0 0) := fun hf => by
    unfold onN onE at hQ
    rw [hf, if_neg (by decide), if_neg (by decide)] at hQ
    exact hQ _ hX0
  unfold w_X12_on
  rw [b1.2.1]
  have h8 := b1.1
  refine nm_e (nm_e ⟨fun q => ?_, fun q => no ?_⟩)
  · have q : tp.1 = 10 := (nI_eq (b := 10) (by omega) (by omega)).mp q
    have hby : ∀ i, i < 10 → tp.2 i < 256 ∧ μ.2.2.1 0 i = nI (tp.2 i) := fun i hi => b1.2.2 i (by omega)
    have hbl : ∀ i, i < 10 → tp.2 i < 256 := fun i hi => (hby i hi).1
    have t0 : ∀ i, i < 10 → (zI μ 0 0).2.2.1 0 i = nI (tp.2 i) := fun i hi => (hby i hi).2
    rw [decide_eq_true q] at eo
    refine m_many hX0.2.2.1.2.2.1.1 ?_
    have h0 := hbl 0 (by omega)
    rw [t0 0 (by omega), nI_eq (by omega) (by omega)]
    generalize hω : zI μ 0 0 = ω at *
    refine ⟨fun z => ?_, fun z => no (by rw [eo, decide_eq_false z]; rfl)⟩
    rw [decide_eq_true z] at eo
    have hn6 : nbB tp.2 1 6 < 256 ^ 6 := nbB_lt 6 (fun i hi => hbl _ (by omega))
    have hn2 : nbB tp.2 7 2 < 256 ^ 2 := nbB_lt 2 (fun i hi => hbl _ (by omega))
    have hn6 : nbB tp.2 1 6 < 281474976710656 := hn6
    have hn2 : nbB tp.2 7 2 < 65536 := hn2
    have hx9 : xrB tp.2 9 < 256 := xrB_lt 9 (fun j hj => hbl j (by omega))
    refine loopU (S := Unit) (fun f i _ => w_X12_on_35 N Q f (nI (xrB tp.2 i)) (nI i) ω) (fun _ _ => True) 9 ?_ ?_ N 0 () (Nat.zero_le _) (by omega) trivial
    · intro f _ _
      show b_X12_on_35 N (w_X12_on_35 N Q f) Q (nI (xrB tp.2 9)) (nI 9) ω
      unfold b_X12_on_35
      refine br_t (nI_le (a := 9) (Nat.le_refl _) (by omega)) ?_
      refine loopU (S := Unit) (fun g i _ => w_X12_on_61 N Q g (nI (xrB tp.2 9)) (lN (nbB tp.2 1 i)) (nI (1 + i)) ω) (fun _ _ => True) 6 ?_ ?_ N 0 () (Nat.zero_le _) (by omega) trivial
      · intro g _ _
        show b_X12_on_61 N (w_X12_on_61 N Q g) Q (nI (xrB tp.2 9)) (lN (nbB tp.2 1 6)) (nI 7) ω
        unfold b_X12_on_61
        have h7 := hbl 7 (by omega)
        have h8' := hbl 8 (by omega)
        have h9 := hbl 9 (by omega)
        have e2 : nbB tp.2 7 2 = 256 * tp.2 7 + tp.2 8 := by
          show (0 * 256 + tp.2 (7 + 0)) * 256 + tp.2 (7 + 1) = _
          show (0 * 256 + tp.2 7) * 256 + tp.2 8 = _
          omega
        rw [t0 7 (by omega), t0 8 (by omega), t0 9 (by omega), show (256 : Int32) = nI 256 from rfl, pk_mul, nI_add, ← e2, nI_eq (by omega) (by omega)]
        refine br_t (nI_le (a := 7) (Nat.le_refl _) (by omega)) (nm_e ⟨fun y => ?_, fun y => no ?_⟩)
        · rw [decide_eq_true y.symm] at eo
          have gω := hX0.2.2.1
          by_cases c1 : nbB tp.2 1 6 < 2 ^ lPc l
          · rw [decide_eq_true c1] at eo
            refine m_may (by omega) gω c1 ⟨fun w => no ?_, fun w => m_isIn ?_⟩
            · rw [eo, b32_0.mp w]; simp
            · have hm : mayv l (nbB tp.2 1 6) = true := by
                cases hh : mayv l (nbB tp.2 1 6) with
                | true => rfl
                | false => exact absurd (b32_0.mpr hh) w
              rw [hm] at eo
              have e5 : extB (nI (nbB tp.2 7 2) - 1000) = decide (nbB tp.2 7 2 ≤ 2000) := by
                have : (nI (nbB tp.2 7 2) - 1000).toInt = (nbB tp.2 7 2 : Int) - 1000 := pk_sub_toInt (b := 1000) (by omega) (by omega)
                unfold extB
                apply Bool.eq_iff_iff.mpr
                simp only [Bool.and_eq_true, decide_eq_true_eq]
                rw [fa_le, fa_le, lit_m1000, lit_1000, this]
                omega
              rw [ext_is, e5]
              by_cases c2 : nbB tp.2 7 2 ≤ 2000
              · rw [decide_eq_true c2] at eo ⊢
                have eo : onB l tp = true := eo
                unfold onN onE at hQ
                rw [eo, if_pos rfl, if_pos rfl] at hQ
                refine br_f (by decide) (nm_e (nm_e ?_))
                obtain ⟨c1', c2', c3, c4, c5, c6, c7, c8, c9, c10, c11, c12⟩ := hX0
                have hX2 : MR (zJ ω 0 (lN (nbB tp.2 1 6))) (0, tp.2) fa l (nbB tp.2 1 6) x ba rg ls cm li oc := ⟨c1', c2', mG_fr (I := []) (J := [0]) (A := []) (B := []) (fr_J fr_r (by decide)) (notin rfl) (by decide) (notin rfl) (notin rfl) c3, c4, c5, ⟨c1, zJ_2s⟩, c7, c8, c9, c10, c11, c12⟩
                exact hQ _ (M_setx (ext_n c2) hX2)
              · rw [decide_eq_false c2] at eo ⊢
                exact br_t rfl (no (by rw [eo]; rfl))
          · rw [decide_eq_false c1] at eo
            exact m_may_no gω (Or.inr ⟨_, by omega, rfl, by omega⟩) (br_t rfl (no (by rw [eo]; rfl)))
        · rw [eo, decide_eq_false (fun z => y z.symm)]; rfl
      · intro g i _ hi _ ih
        show b_X12_on_61 N (w_X12_on_61 N Q g) Q (nI (xrB tp.2 9)) (lN (nbB tp.2 1 i)) (nI (1 + i)) ω
        unfold b_X12_on_61
        have hb := hbl (1 + i) (by omega)
        have ih : w_X12_on_61 N Q g (nI (xrB tp.2 9)) (lN (nbB tp.2 1 i * 256 + tp.2 (1 + i))) (nI (1 + (i + 1))) ω := ih () trivial
        rw [nI_clamp (n := 1 + i) (by omega), t0 (1 + i) (by omega), nI_l (by omega), show (256 : Int64) = lN 256 from rfl, lN_mul, lN_add, Nat.mul_comm 256, nI_1]
        exact br_f (nI_ge (b := 7) (by omega) (by omega)) ⟨vp_in_nI (by omega) (by decide), nm_e (nm_e ih)⟩
    · intro f i _ hi _ ih
      show b_X12_on_35 N (w_X12_on_35 N Q f) Q (nI (xrB tp.2 i)) (nI i) ω
      unfold b_X12_on_35
      rw [nI_clamp (n := i) (by omega), t0 i (by omega), fb_xorI, nI_1]
      exact br_f (nI_ge (b := 9) (by omega) (by omega)) ⟨vp_in_nI (by omega) (by decide), nm_e (nm_e (ih () trivial))⟩
  · have q : ¬ tp.1 = 10 := fun z => q (by rw [z]; rfl)
    rw [eo, decide_eq_false q]; rfl
end on
