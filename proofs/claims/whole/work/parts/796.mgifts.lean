/-! the same of the reference -/
theorem in02 (w : Int32) : (decide ((0 : Int64) ≤ w.toInt64) && decide (w.toInt64 ≤ (2 : Int64))) = decide (w = 0 ∨ w = 1 ∨ w = 2) := by
  have h0 : (0 : Int64) = (0 : Int32).toInt64 := by decide
  have h1 : (2 : Int64) = (2 : Int32).toInt64 := by decide
  rw [h0, h1]
  apply Bool.eq_iff_iff.mpr
  rw [Bool.and_eq_true, decide_eq_true_eq, decide_eq_true_eq, decide_eq_true_eq, fa_wide_le, fa_wide_le, fa_le, fa_le, fa_eq, fa_eq, fa_eq]
  have e0 : (0 : Int32).toInt = 0 := by decide
  have e1 : (1 : Int32).toInt = 1 := by decide
  have e2 : (2 : Int32).toInt = 2 := by decide
  omega
theorem inPc (k : Int32) (c : Nat) (hc : c < 2 ^ 20) : (decide ((0 : Int64) ≤ k.toInt64) && decide (k.toInt64 ≤ (nI c - 1).toInt64)) = decide (0 ≤ k ∧ k < nI c) := by
  have h0 : (0 : Int64) = (0 : Int32).toInt64 := by decide
  rw [h0]
  apply Bool.eq_iff_iff.mpr
  rw [Bool.and_eq_true, decide_eq_true_eq, decide_eq_true_eq, decide_eq_true_eq, fa_wide_le, fa_wide_le, fa_le, fa_le, fa_lt, nI_toInt (by omega)]
  have : (nI c - 1).toInt = (c : Int) - 1 := pk_sub_toInt (b := 1) (by omega) (by omega)
  omega
section mg2
variable {N : Nat} {σ τ μ ν : zSt} {tp : Nat × (Nat → Nat)} {fa : Int32 × Int32} {l : zL} {net : Nat} {x : Int32} {ba rg : Nat → Int64} {ls : Nat × (Nat → Int64)} {cm : Nat × (Nat → Int64) × (Nat → Int32)} {li : Int64} {oc : Nat → Int32}
theorem M_need {k p : Nat} {Q : Int64 → zSt → Prop} (hN : 1100 < N) (h : MR μ tp fa l net x ba rg ls cm li oc) (hw : nowI μ l (fun _ => x) net) (hk : k < lPc l) (hp : p < lPn l) (hQ : ∀ ν, MR ν tp fa l net x ba rg ls cm li oc → nowI ν l (fun _ => x) net → Q (nedV l (fun _ => x) net k p) ν) : w_X12_needOf N (nI p) (nI k) μ Q := by
  obtain ⟨b1, b2, b3, b4, b5, b6, b7, b8, b9, b10, b11, b12⟩ := id h
  have h10 := b3.1.1
  have hpc := pc_le h10
  have htb : bdf net (2 ^ k) < 2 ^ lPc l := bdf_lt b6.1
  unfold w_X12_needOf
  rw [b6.2, oneJ (by omega), bdfJ]
  refine m_of hN b3 hp htb (fun τ f1 g1 => ⟨vp_in_nI (by omega) (by decide), nm_e ?_⟩)
  rw [nI_clamp (n := p) (by omega), now_F f1 hw p hp, lg_cmp_le]
  have hq := hQ τ (MR_s (mS_F f1) g1 h) (now_F f1 hw)
  unfold nedV at hq
  rw [← le0_lt] at hq
  refine ⟨fun z => ?_, fun z => ?_⟩
  · rw [if_pos z] at hq; exact hq
  · rw [if_neg z] at hq; exact hq
theorem M_passes {k p : Nat} {Q : Int64 → zSt → Prop} (hN : 1100 < N) (h : MR μ tp fa l net x ba rg ls cm li oc) (hw : nowI μ l (fun _ => x) net) (hk : k < lPc l) (hp : p < lPn l) (hQ : ∀ ν, MR ν tp fa l net x ba rg ls cm li oc → nowI ν l (fun _ => x) net → Q (pasV l (fun _ => x) net k p) ν) : w_X12_passes N (nI p) (nI k) μ Q := by
  obtain ⟨b1, b2, b3, b4, b5, b6, b7, b8, b9, b10, b11, b12⟩ := id h
  have h10 := b3.1.1
  have hpc := pc_le h10
  have hlo := lo_pc h10 hk
  have hhi := hi_pc h10 hk
  have htb : bdf net (2 ^ k) < 2 ^ lPc l := bdf_lt b6.1
  have hot : othK k p < lPn l := by
    unfold othK
    by_cases c : loN k = p
    · rw [if_pos c]; exact hhi
    · rw [if_neg c]; exact hlo
  unfold w_X12_passes
  refine M_need hN h hw hk hp (fun τ t0 t1 => ?_)
  have key : (vp_in (nI (othK k p)) 10) ∧ (w_X12_worthOf N ((τ.2.1 0) &&& (((1 : Int64) <<< ((nI k).toInt64 &&& 63)) ^^^ (-1 : Int64))) (nI (othK k p)) τ (fun r5 τ6 => ∀ v7 : Int64, v7 = (τ.2.2.2 4 (nI (othK k p)).toNatClampNeg) - r5 → (0 < (lg_cmp v7 (0 : Int64)) → (0 ≤ (lg_cmp v7 (nedV l (fun _ => x) net k p)) → Q (nedV l (fun _ => x) net k p) τ6) ∧ (¬ 0 ≤ (lg_cmp v7 (nedV l (fun _ => x) net k p)) → Q v7 τ6)) ∧ (¬ 0 < (lg_cmp v7 (0 : Int64)) → Q (0 : Int64) τ6))) := by
    refine ⟨vp_in_nI (by omega) (by decide), ?_⟩
    rw [t0.2.2.2.2.2.1.2, oneJ (by omega), bdfJ, nI_clamp (n := othK k p) (by omega), t1 _ hot]
    refine m_of hN t0.2.2.1 hot htb (fun υ f1 g1 => nm_e ?_)
    have hq := hQ υ (MR_s (mS_F f1) g1 t0) (now_F f1 t1)
    rw [← pas_is] at hq
    rw [lg_cmp_gt, lg_cmp_ge]
    refine ⟨fun z => ⟨fun z2 => ?_, fun z2 => ?_⟩, fun z => ?_⟩
    · rw [if_pos z, if_pos z2] at hq; exact hq
    · rw [if_pos z, if_neg z2] at hq; exact hq
    · rw [if_neg z] at hq; exact hq
  unfold w_X12_beside
  unfold othK at key
  refine m_lowOf (by omega) (by omega) ⟨fun q => m_highOf (by omega) (by omega) ?_, fun q => m_lowOf (by omega) (by omega) ?_⟩
  · rw [if_pos ((nI_eq (by omega) (by omega)).mp q)] at key; exact key
  · rw [if_neg (fun z => q (by rw [z]))] at key; exact key
theorem M_gifts {w : Int32} {Q : Int64 → zSt → Prop} (hN : 1100 < N) (h : MR μ tp fa l net x ba rg ls cm li oc) (hQ : ∀ ν, MR ν tp fa l net x ba rg ls cm li oc → Q (gifA l x net w) ν) : w_X12_gifts N w μ Q := by
  obtain ⟨b1, b2, b3, b4, b5, b6, b7, b8, b9, b10, b11, b12⟩ := id h
  have h10 := b3.1.1
  have hpc := pc_le h10
  have h45 := net45 h10 b6.1
  unfold w_X12_gifts
  refine m_isIn ?_
  have e3 := in02 w
  rw [e3]
  unfold gifA at hQ
  by_cases hw3 : w = 0 ∨ w = 1 ∨ w = 2
  · rw [decide_eq_true hw3]
    refine br_f (by decide) ?_
    rw [b6.2]
    refine m_begins hN b3 b6.1 (fun τ0 f0 g0 w0 => ?_)
    have hX0 := MR_s (mS_4 f0) g0 h
    refine ⟨fun q => ?_, fun q => ?_⟩
    · rw [if_pos q] at hQ
      rw [hX0.2.2.2.2.2.1.2]
      refine m_findsAdd hN g0 (ex_ok2 b5.1) w0 b6.1 (fun τ f1 g1 _ => ?_)
      have hq := hQ τ (MR_s (mS_3 f1) g1 hX0)
      unfold addO at hq
      cases ha : (fstO (gadd l (fun _ => x) net) (lPc l) 0).isSome with
      | true => rw [ha, if_pos rfl] at hq; exact br_f (by decide) hq
      | false => rw [ha, if_neg (by decide)] at hq; exact br_t rfl hq
    · obtain ⟨b, hb⟩ : ∃ b : Bool, w = b32 b := by
        rcases hw3 with z | z | z
        · exact ⟨false, z⟩
        · exact ⟨true, z⟩
        · exact absurd z q
      have hQ2 : ∀ ν, MR ν tp fa l net x ba rg ls cm li oc → Q (giS l (fun _ => x) net b (lPc l)) ν := fun ν hν => by
        have := hQ ν hν
        rw [if_neg q] at this
        cases b with
        | false => rw [if_pos (show w = 0 from hb)] at this; exact this
        | true => rw [if_neg (by rw [hb]; decide), if_pos (show w = 1 from hb)] at this; exact this
      refine loopU (S := zSt) (fun f k τ => w_X12_gifts_51 N Q f w (giS l (fun _ => x) net b k) (nI k) τ) (fun k τ => MR τ tp fa l net x ba rg ls cm li oc ∧ nowI τ l (fun _ => x) net) (lPc l) ?_ ?_ N 0 τ0 (Nat.zero_le _) (by omega) ⟨hX0, w0⟩
      · intro f τ ⟨t0, t1⟩
        show b_X12_gifts_51 N (w_X12_gifts_51 N Q f) Q w (giS l (fun _ => x) net b (lPc l)) (nI (lPc l)) τ
        unfold b_X12_gifts_51
        exact m_pairs t0.2.2.1.2.2.1.1 h10 (br_t (nI_le (Nat.le_refl _) (by omega)) (hQ2 τ t0))
      · intro f k τ hk ⟨t0, t1⟩ ih
        show b_X12_gifts_51 N (w_X12_gifts_51 N Q f) Q w (giS l (fun _ => x) net b k) (nI k) τ
        unfold b_X12_gifts_51
        have hlo := lo_pc h10 hk
        have hhi := hi_pc h10 hk
        have ihs : ∀ υ, MR υ tp fa l net x ba rg ls cm li oc ∧ nowI υ l (fun _ => x) net → w_X12_gifts_51 N Q f w (giS l (fun _ => x) net b (k + 1)) (nI (k + 1)) υ := ih
        rw [giS] at ihs
        refine m_pairs t0.2.2.1.2.2.1.1 h10 (br_f (nI_ge hk (by show lPc l < 2 ^ 31; omega)) ?_)
        rw [t0.2.2.2.2.2.1.2, nI_1]
        refine m_isTied (by omega) (by omega) ?_
        cases hb1 : net.testBit k with
        | false =>
          have := ihs τ ⟨t0, t1⟩
          rw [if_neg (by rw [hb1]; decide)] at this
          exact br_t rfl (nm_e this)
        | true =>
          rw [if_pos hb1] at ihs
          refine br_f (by decide) ?_
          have one : ∀ (k78 : Int32 → Int64 → Int32 → Int32 → zSt → Prop) (acc : Int64) (i p : Nat) (υ : zSt), p < lPn l → MR υ tp fa l net x ba rg ls cm li oc → nowI υ l (fun _ => x) net → (∀ ω, MR ω tp fa l net x ba rg ls cm li oc → nowI ω l (fun _ => x) net → k78 w (acc + giV l (fun _ => x) net b k p) (nI k) (nI (i + 1)) ω) → b_X12_gifts_102 N (w_X12_gifts_51 N Q f) k78 Q w acc (nI k) (nI i) (nI p) υ := by
            intro k78 acc i p υ hp u0 u1 hk78
            unfold b_X12_gifts_102
            refine M_passes hN u0 u1 hk hp (fun ω v0 v1 => ?_)
            unfold giV at hk78
            rw [nI_1]
            refine ⟨fun z => nm_e (nm_e ?_), fun z => ?_⟩
            · have e1 : b = false := by
                cases b with
                | false => rfl
                | true => rw [hb] at z; exact absurd z (by decide)
              subst e1
              have hz : ∀ ω, MR ω tp fa l net x ba rg ls cm li oc → nowI ω l (fun _ => x) net → k78 w (acc + pasV l (fun _ => x) net k p) (nI k) (nI (i + 1)) ω := fun ω a b => by
                have := hk78 ω a b
                rw [if_neg (by decide)] at this
                exact this
              exact hz ω v0 v1
            · have e1 : b = true := by
                cases b with
                | true => rfl
                | false => exact absurd hb z
              subst e1
              have hz : ∀ ω, MR ω tp fa l net x ba rg ls cm li oc → nowI ω l (fun _ => x) net → k78 w (acc + (nedV l (fun _ => x) net k p - pasV l (fun _ => x) net k p)) (nI k) (nI (i + 1)) ω := fun ω a b => by
                have := hk78 ω a b
                rw [if_pos rfl] at this
                exact this
              exact M_need hN v0 v1 hk hp (fun ψ p0 p1 => nm_e (nm_e (hz ψ p0 p1)))
          obtain ⟨N', rfl⟩ : ∃ m, N = m + 3 := ⟨N - 3, by omega⟩
          show b_X12_gifts_78 (N' + 3) (w_X12_gifts_51 (N' + 3) Q f) (w_X12_gifts_78 (N' + 3) (w_X12_gifts_51 (N' + 3) Q f) Q (N' + 2)) Q w (giS l (fun _ => x) net b k) (nI k) (nI 0) τ
          unfold b_X12_gifts_78
          refine br_f (by decide) (br_t rfl (m_lowOf (by omega) (by omega) (one _ _ 0 _ τ hlo t0 t1 (fun υ u0 u1 => ?_))))
          show b_X12_gifts_78 (N' + 3) (w_X12_gifts_51 (N' + 3) Q f) (w_X12_gifts_78 (N' + 3) (w_X12_gifts_51 (N' + 3) Q f) Q (N' + 1)) Q w _ (nI k) (nI 1) υ
          unfold b_X12_gifts_78
          refine br_f (by decide) (br_f (by decide) (m_highOf (by omega) (by omega) (one _ _ 1 _ υ hhi u0 u1 (fun ω v0 v1 => ?_))))
          show b_X12_gifts_78 (N' + 3) (w_X12_gifts_51 (N' + 3) Q f) (w_X12_gifts_78 (N' + 3) (w_X12_gifts_51 (N' + 3) Q f) Q N') Q w _ (nI k) (nI 2) ω
          unfold b_X12_gifts_78
          refine br_t (by decide) (nm_e ?_)
          rw [nI_1, Int64.add_assoc]
          exact ihs ω ⟨v0, v1⟩
  · rw [decide_eq_false hw3]
    rw [if_neg (fun z => hw3 (Or.inr (Or.inr z))), if_neg (fun z => hw3 (Or.inl z)), if_neg (fun z => hw3 (Or.inr (Or.inl z)))] at hQ
    exact br_t rfl (hQ μ h)
theorem M_gift {p k : Int32} {b : Bool} {Q : Int64 → zSt → Prop} (hN : 1100 < N) (h : MR μ tp fa l net x ba rg ls cm li oc) (hQ : ∀ ν, MR ν tp fa l net x ba rg ls cm li oc → Q (gftA l x net p k b) ν) : w_X12_gift N p k (b32 b) μ Q := by
  obtain ⟨b1, b2, b3, b4, b5, b6, b7, b8, b9, b10, b11, b12⟩ := id h
  have h10 := b3.1.1
  have hpc := pc_le h10
  have h45 := net45 h10 b6.1
  unfold w_X12_gift
  unfold gftA at hQ
  have e1 := inPc k (lPc l) (by omega)
  refine m_isPer h10 b3.2.2.1.1 ⟨fun q => ?_, fun q => m_pairs b3.2.2.1.1 h10 (m_isIn ?_)⟩
  · have hpf := b32_0.mp q
    by_cases c1 : 0 ≤ k ∧ k < nI (lPc l)
    · rw [if_pos c1] at hQ
      obtain ⟨j, hj, e2, e3⟩ := ixc (by omega) c1.1 c1.2
      rw [e3] at hQ
      have hlo := lo_pc h10 hj
      have hhi := hi_pc h10 hj
      have np : ∀ m, m < lPn l → ¬ p = nI m := fun m hm z => by
        rw [z] at hpf
        unfold perB at hpf
        rw [decide_eq_true (show (0 : Int32) ≤ nI m from nI_le (a := 0) (Nat.zero_le _) (by omega)), decide_eq_true (nI_lt hm (by omega))] at hpf
        exact absurd hpf (by decide)
      by_cases c2 : net.testBit j = true
      · rw [if_pos c2, if_neg (fun z => z.elim (np _ hlo) (np _ hhi))] at hQ
        exact hQ μ h
      · rw [if_neg c2] at hQ
        exact hQ μ h
    · rw [if_neg c1] at hQ
      exact hQ μ h
  · have e1' : (decide ((0 : Int64) ≤ k.toInt64) && decide (k.toInt64 ≤ (nI (lPn l * (lPn l - 1) / 2) - 1).toInt64)) = decide (0 ≤ k ∧ k < nI (lPc l)) := e1
    rw [e1']
    by_cases c1 : 0 ≤ k ∧ k < nI (lPc l)
    · rw [if_pos c1] at hQ
      obtain ⟨j, hj, e2, e3⟩ := ixc (by omega) c1.1 c1.2
      rw [e3] at hQ
      rw [decide_eq_true c1, e2]
      have hlo := lo_pc h10 hj
      have hhi := hi_pc h10 hj
      refine br_f (by decide) ?_
      rw [b6.2]
      refine m_isTied (by omega) (by omega) ?_
      have go : ∀ m, m < lPn l → p = nI m → (∀ ν, MR ν tp fa l net x ba rg ls cm li oc → Q (giV l (fun _ => x) net b j m) ν) → b_X12_gift_55 N Q p (nI j) (b32 b) μ := fun m hm em hq => by
        unfold b_X12_gift_55
        rw [em, b6.2]
        refine m_begins hN b3 b6.1 (fun τ0 f0 g0 w0 => ?_)
        have hX0 := MR_s (mS_4 f0) g0 h
        unfold giV at hq
        refine M_passes hN hX0 w0 hj hm (fun υ u0 u1 => ?_)
        cases b with
        | false =>
          have hz := hq υ u0
          rw [if_neg (by decide)] at hz
          exact br_t rfl hz
        | true => exact br_f (show ¬ (1 : Int32) = 0 by decide) (M_need hN u0 u1 hj hm (fun ω v0 _ => by
            have hz := hq ω v0
            rw [if_pos rfl] at hz
            exact hz))
      cases c2 : net.testBit j with
      | false =>
        rw [if_neg (by rw [c2]; decide)] at hQ
        exact br_t rfl (hQ μ h)
      | true =>
        rw [if_pos c2] at hQ
        refine br_f (by decide) (m_lowOf (by omega) (by omega) ⟨fun z => ?_, fun z => m_highOf (by omega) (by omega) ⟨fun z2 => ?_, fun z2 => ?_⟩⟩)
        · rw [if_pos (Or.inl z.symm), ← z, nI_clamp (by omega)] at hQ
          exact go _ hlo z.symm hQ
        · rw [if_pos (Or.inr z2.symm), ← z2, nI_clamp (by omega)] at hQ
          exact go _ hhi z2.symm hQ
        · rw [if_neg (fun w => w.elim (fun w => z w.symm) (fun w => z2 w.symm))] at hQ
          exact hQ μ h
    · rw [if_neg c1] at hQ
      rw [decide_eq_false c1]
      exact br_t rfl (hQ μ h)
theorem M_good {b : Bool} {Q : Int64 → zSt → Prop} (hN : 1100 < N) (h : MR μ tp fa l net x ba rg ls cm li oc) (hQ : ∀ ν, MR ν tp fa l net x ba rg ls cm li oc → Q (gooA l x net b) ν) : w_X12_good N (b32 b) μ Q := by
  obtain ⟨b1, b2, b3, b4, b5, b6, b7, b8, b9, b10, b11, b12⟩ := id h
  have h10 := b3.1.1
  have hpc := pc_le h10
  have h45 := net45 h10 b6.1
  unfold w_X12_good
  rw [b6.2]
  refine m_ofAll hN b3 b6.1 (fun τa fa1 ga => ?_)
  have hXa := MR_s (mS_F fa1) ga h
  rw [hXa.2.2.2.2.2.1.2]
  refine m_begins hN ga b6.1 (fun τ0 f0 g0 w0 => ?_)
  have hX0 := MR_s (mS_4 f0) g0 hXa
  refine loopU (S := zSt) (fun f k τ => w_X12_good_23 N Q f (b32 b) (twS l (fun _ => x) net (lPn l)) (lN (msk (gooB l (fun _ => x) net b) k)) (nI k) τ) (fun k τ => MR τ tp fa l net x ba rg ls cm li oc ∧ nowI τ l (fun _ => x) net) (lPc l) ?_ ?_ N 0 τ0 (Nat.zero_le _) (by omega) ⟨hX0, w0⟩
  · intro f τ ⟨t0, t1⟩
    show b_X12_good_23 N (w_X12_good_23 N Q f) Q (b32 b) (twS l (fun _ => x) net (lPn l)) (lN (msk (gooB l (fun _ => x) net b) (lPc l))) (nI (lPc l)) τ
    unfold b_X12_good_23
    exact m_pairs t0.2.2.1.2.2.1.1 h10 (br_t (nI_le (Nat.le_refl _) (by omega)) (hQ τ t0))
  · intro f k τ hk ⟨t0, t1⟩ ih
    show b_X12_good_23 N (w_X12_good_23 N Q f) Q (b32 b) (twS l (fun _ => x) net (lPn l)) (lN (msk (gooB l (fun _ => x) net b) k)) (nI k) τ
    unfold b_X12_good_23
    have htb : net ^^^ 2 ^ k < 2 ^ lPc l := Nat.xor_lt_two_pow b6.1 (p2lt hk)
    have ihs : ∀ υ, MR υ tp fa l net x ba rg ls cm li oc ∧ nowI υ l (fun _ => x) net → w_X12_good_23 N Q f (b32 b) (twS l (fun _ => x) net (lPn l)) (lN (msk (gooB l (fun _ => x) net b) k ||| (if gooB l (fun _ => x) net b k then 2 ^ k else 0))) (nI (k + 1)) υ := ih
    have hgb : gooB l (fun _ => x) net b k = (decide (net.testBit k = b) && (mayv l (net ^^^ 2 ^ k) && (!decide (twS l (fun _ => x) (net ^^^ 2 ^ k) (lPn l) ≤ twS l (fun _ => x) net (lPn l)) && !movB l (fun _ => x) net k))) := rfl
    have no : ∀ υ, MR υ tp fa l net x ba rg ls cm li oc → nowI υ l (fun _ => x) net → gooB l (fun _ => x) net b k = false → w_X12_good_23 N Q f (b32 b) (twS l (fun _ => x) net (lPn l)) (lN (msk (gooB l (fun _ => x) net b) k)) (nI (k + 1)) υ := fun υ u0 u1 hf => by
      have := ihs υ ⟨u0, u1⟩
      rw [hf] at this
      simp only [Bool.false_eq_true, if_false, Nat.or_zero] at this
      exact this
    refine m_pairs t0.2.2.1.2.2.1.1 h10 (br_f (nI_ge hk (by show lPc l < 2 ^ 31; omega)) ?_)
    rw [t0.2.2.2.2.2.1.2, oneJ (by omega), fb_xorL, fb_orL, nI_1]
    refine nm_e (m_isTied (by omega) (by omega) ?_)
    have hs : ((if net.testBit k then (1 : Int32) else 0) = b32 b) ↔ net.testBit k = b := by
      cases net.testBit k <;> cases b <;> decide
    refine ⟨fun q => m_may (by omega) t0.2.2.1 htb ⟨fun q2 => nm_e (no τ t0 t1 ?_), fun q2 => ?_⟩, fun q => nm_e (no τ t0 t1 ?_)⟩
    · rw [hgb, b32_0.mp q2]; simp
    · have hm : mayv l (net ^^^ 2 ^ k) = true := by
        cases hh : mayv l (net ^^^ 2 ^ k) with
        | true => rfl
        | false => exact absurd (b32_0.mpr hh) q2
      rw [t0.2.2.2.2.2.1.2]
      refine m_isStep hN t0.2.2.1 (ex_ok2 b5.1) t1 hk b6.1 (fun υ f1 g1 => ?_)
      have u0 := MR_s (mS_F f1) g1 t0
      have u1 := now_F f1 t1
      cases hmv : movB l (fun _ => x) net k with
      | true => exact br_f (by decide) (nm_e (no υ u0 u1 (by rw [hgb, hmv]; simp)))
      | false =>
        refine br_t rfl (m_ofAll hN g1 htb (fun ω f2 g2 => ?_))
        have v0 := MR_s (mS_F f2) g2 u0
        have v1 := now_F f2 u1
        rw [lg_cmp_le]
        refine ⟨fun q3 => nm_e (no ω v0 v1 ?_), fun q3 => nm_e (nm_e ?_)⟩
        · rw [hgb, decide_eq_true q3]; simp
        · have hgt : gooB l (fun _ => x) net b k = true := by rw [hgb, decide_eq_true (hs.mp q), hm, decide_eq_false q3, hmv]; rfl
          have := ihs ω ⟨v0, v1⟩
          rw [hgt] at this
          simp only [if_true] at this
          exact this
    · rw [hgb, decide_eq_false (fun z => q (hs.mpr z))]; rfl
end mg2
