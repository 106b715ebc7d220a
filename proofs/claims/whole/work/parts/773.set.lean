/-! sets of few who change together -/
def frs (c : Nat → Bool) : Nat → Nat → Nat
  | 0, _ => 0
  | m + 1, s => if c s = true then s else frs c m (s + 1)
theorem frs_cong {c d : Nat → Bool} : ∀ (m s : Nat), (∀ j, s ≤ j → j < s + m → c j = d j) → frs c m s = frs d m s
  | 0, _, _ => rfl
  | m + 1, s, h => by
    rw [frs, frs, h s (Nat.le_refl _) (by omega), frs_cong m (s + 1) (fun j h1 h2 => h j (by omega) (by omega))]
theorem frs_no {c : Nat → Bool} : ∀ (m s : Nat), (∀ j, s ≤ j → j < s + m → c j = false) → frs c m s = 0
  | 0, _, _ => rfl
  | m + 1, s, h => by
    rw [frs, h s (Nat.le_refl _) (by omega), if_neg (by decide), frs_no m (s + 1) (fun j h1 h2 => h j (by omega) (by omega))]
theorem frs_cut {c : Nat → Bool} : ∀ (a b s : Nat), (∀ j, s + a ≤ j → j < s + a + b → c j = false) → frs c (a + b) s = frs c a s
  | 0, b, s, h => by
    rw [Nat.zero_add, frs_no b s (fun j h1 h2 => h j (by omega) (by omega))]; rfl
  | a + 1, b, s, h => by
    rw [show a + 1 + b = (a + b) + 1 by omega, frs, frs, frs_cut a b (s + 1) (fun j h1 h2 => h j (by omega) (by omega))]
theorem frs_lt {c : Nat → Bool} : ∀ (m s : Nat), frs c m s < s + m ∨ frs c m s = 0
  | 0, _ => Or.inr rfl
  | m + 1, s => by
    rw [frs]
    by_cases h : c s = true
    · rw [if_pos h]; exact Or.inl (by omega)
    · rw [if_neg h]
      rcases frs_lt (c := c) m (s + 1) with g | g
      · exact Or.inl (by omega)
      · exact Or.inr g
def insM (s : Nat) : Nat := msk (fun k => s.testBit (loN k) && s.testBit (hiN k)) 10
def touM (s : Nat) : Nat := msk (fun k => s.testBit (loN k) || s.testBit (hiN k)) 10
/-- the class's tables of sets -/
def xI (σ : zSt) : Prop := ∀ s, s < 32 → σ.2.2.2 7 s = lN (insM s) ∧ σ.2.2.2 8 s = lN (touM s)
def gnM (l : zL) (e : Nat → Int32) (net to : Nat) : Nat := msk (fun p => gnB l e net to p) (lPn l)
def canM (l : zL) (net to s : Nat) : Bool := (List.range (lPc l)).all (fun k => !(net.testBit k && (!to.testBit k && (!s.testBit (loN k) && !s.testBit (hiN k)))) && !(!net.testBit k && (to.testBit k && !(s.testBit (loN k) && s.testBit (hiN k)))))
def cS (l : zL) (e : Nat → Int32) (net to s : Nat) : Bool := decide (bdf s (gnM l e net to) = 0) && canM l net to s
def gset (l : zL) (e : Nat → Int32) (net to : Nat) : zO := if mayv l to = true ∧ to ≠ net then (if frs (cS l e net to) (2 ^ lPn l - 1) 1 = 0 then none else some (5, frs (cS l e net to) (2 ^ lPn l - 1) 1, to)) else none
theorem bdf_0 {a b : Nat} : bdf a b = 0 ↔ ∀ j, a.testBit j = true → b.testBit j = true := by
  constructor
  · intro h j hj
    have := bdf_bit a b j
    rw [h, Nat.zero_testBit, hj] at this
    cases hb : b.testBit j with
    | true => rfl
    | false => rw [hb] at this; exact absurd this (by decide)
  · intro h
    apply bit_ext
    intro j
    rw [bdf_bit, Nat.zero_testBit]
    cases ha : a.testBit j with
    | false => rfl
    | true => rw [h j ha]; rfl
theorem sub_le_of {a b : Nat} (h : bdf a b = 0) : a ≤ b := by
  have h1 := bdf_0.mp h
  have : a ||| b = b := by
    apply bit_ext
    intro j
    rw [Nat.testBit_or]
    cases ha : a.testBit j with
    | false => rfl
    | true => rw [h1 j ha]; rfl
  rw [← this]
  exact Nat.left_le_or
/-- some person makes a tie and does not gain -/
def badB (l : zL) (e : Nat → Int32) (net to : Nat) : Bool := (List.range (lPn l)).any (fun p => !gnB l e net to p && decide (bdf to net &&& stU 45 p ≠ 0))
def gnr (l : zL) (e : Nat → Int32) (net to : Nat) : Nat := if badB l e net to = true then 0 else gnM l e net to
/-- what the class asks of a set -/
def cX (G made cut s : Nat) : Bool := decide (s ≤ G) && (decide (bdf s G = 0) && (decide (bdf made (insM s) = 0) && decide (bdf cut (touM s) = 0)))
theorem can_is {l : zL} {net to s : Nat} (h5 : lPn l ≤ 5) (hn : net < 2 ^ lPc l) (ht : to < 2 ^ lPc l) : canM l net to s = (decide (bdf (bdf to net) (insM s) = 0) && decide (bdf (bdf net to) (touM s) = 0)) := by
  have hpc : lPc l ≤ 10 := tri_mono (b := 5) h5
  apply Bool.eq_iff_iff.mpr
  unfold canM
  rw [List.all_eq_true, Bool.and_eq_true, decide_eq_true_eq, decide_eq_true_eq, bdf_0, bdf_0]
  constructor
  · intro h
    constructor
    · intro k hk
      rw [bdf_bit, Bool.and_eq_true] at hk
      have hkl : k < lPc l := by
        rcases Nat.lt_or_ge k (lPc l) with g | g
        · exact g
        · rw [bit_hi ht g] at hk; exact absurd hk.1 (by decide)
      have := h k (List.mem_range.mpr hkl)
      rw [insM, msk_bit]
      have hk2 : net.testBit k = false := by simpa using hk.2
      rw [hk.1, hk2] at this
      simp at this
      simp [show k < 10 by omega, this]
    · intro k hk
      rw [bdf_bit, Bool.and_eq_true] at hk
      have hkl : k < lPc l := by
        rcases Nat.lt_or_ge k (lPc l) with g | g
        · exact g
        · rw [bit_hi hn g] at hk; exact absurd hk.1 (by decide)
      have := h k (List.mem_range.mpr hkl)
      rw [touM, msk_bit]
      have hk2 : to.testBit k = false := by simpa using hk.2
      rw [hk.1, hk2] at this
      have h10 : k < 10 := by omega
      simp only [h10, decide_true, Bool.true_and]
      cases h1 : s.testBit (loN k) <;> cases h2 : s.testBit (hiN k) <;> simp [h1, h2] at this ⊢
  · intro ⟨h1, h2⟩ k hk
    have hkl := List.mem_range.mp hk
    have g1 := h1 k
    have g2 := h2 k
    rw [bdf_bit, insM, msk_bit] at g1
    rw [bdf_bit, touM, msk_bit] at g2
    have h10 : k < 10 := by omega
    simp only [h10, decide_true, Bool.true_and] at g1 g2
    cases a1 : net.testBit k <;> cases a2 : to.testBit k <;> cases a3 : s.testBit (loN k) <;> cases a4 : s.testBit (hiN k) <;> simp [a1, a2, a3, a4] at g1 g2 ⊢
theorem gnM_lt (l : zL) (e : Nat → Int32) (net to : Nat) : gnM l e net to < 2 ^ lPn l := msk_lt _ _
theorem set_is {l : zL} {e : Nat → Int32} {net to : Nat} (h5 : lPn l ≤ 5) (hn : net < 2 ^ lPc l) (ht : to < 2 ^ lPc l) : frs (cX (gnr l e net to) (bdf to net) (bdf net to)) 31 1 = frs (cS l e net to) (2 ^ lPn l - 1) 1 := by
  have h2 : 2 ^ lPn l ≤ 32 := Nat.pow_le_pow_right (n := 2) (by decide) h5
  have h1 : 0 < 2 ^ lPn l := Nat.two_pow_pos _
  have hG : gnr l e net to < 2 ^ lPn l := by
    unfold gnr
    by_cases hb : badB l e net to = true
    · rw [if_pos hb]; exact h1
    · rw [if_neg hb]; exact gnM_lt _ _ _ _
  rw [show 31 = (2 ^ lPn l - 1) + (32 - 2 ^ lPn l) by omega, frs_cut]
  · refine frs_cong _ _ (fun s hs1 hs2 => ?_)
    unfold cX cS
    rw [can_is h5 hn ht]
    unfold gnr
    by_cases hb : badB l e net to = true
    · rw [if_pos hb]
      have e1 : decide (s ≤ 0) = false := by simp; omega
      rw [e1, Bool.false_and]
      symm
      apply Bool.eq_false_iff.mpr
      intro hc
      rw [Bool.and_eq_true, Bool.and_eq_true, decide_eq_true_eq, decide_eq_true_eq] at hc
      obtain ⟨p, hp1, hp2⟩ := List.any_eq_true.mp hb
      rw [Bool.and_eq_true, decide_eq_true_eq] at hp2
      have hpl := List.mem_range.mp hp1
      have hgp : gnB l e net to p = false := by simpa using hp2.1
      have hsp : s.testBit p = false := by
        cases hh : s.testBit p with
        | false => rfl
        | true =>
          have := bdf_0.mp hc.1 p hh
          rw [gnM, msk_bit, hgp] at this
          simp at this
      apply hp2.2
      apply bit_ext
      intro k
      rw [Nat.zero_testBit, Nat.testBit_and, stU_msk, msk_bit]
      cases hm : (bdf to net).testBit k with
      | false => rfl
      | true =>
        have h3 := bdf_0.mp hc.2.1 k hm
        rw [insM, msk_bit, Bool.and_eq_true, Bool.and_eq_true] at h3
        have n1 : ¬ loN k = p := fun z => by
          have := h3.2.1
          rw [z, hsp] at this
          exact absurd this (by decide)
        have n2 : ¬ hiN k = p := fun z => by
          have := h3.2.2
          rw [z, hsp] at this
          exact absurd this (by decide)
        simp [n1, n2]
    · rw [if_neg hb]
      by_cases hz : bdf s (gnM l e net to) = 0
      · have e1 : decide (s ≤ gnM l e net to) = true := decide_eq_true (sub_le_of hz)
        rw [e1, Bool.true_and]
      · rw [decide_eq_false hz, Bool.false_and, Bool.and_false]
  · intro j hj1 hj2
    unfold cX
    have e1 : decide (j ≤ gnr l e net to) = false := by simp; omega
    rw [e1, Bool.false_and]
theorem gnr_self {l : zL} {e : Nat → Int32} {net : Nat} : frs (cS l e net net) (2 ^ lPn l - 1) 1 = 0 := by
  refine frs_no _ _ (fun s h1 h2 => ?_)
  unfold cS
  have e0 : gnM l e net net = 0 := msk_0.mpr (fun p _ => by unfold gnB; rw [decide_eq_true (Int64.le_refl _)]; rfl)
  rw [e0]
  have : ¬ bdf s 0 = 0 := fun h => by
    have := sub_le_of h
    omega
  rw [decide_eq_false this, Bool.false_and]
theorem set_is2 {l : zL} {e : Nat → Int32} {net to : Nat} (h5 : lPn l ≤ 5) (hn : net < 2 ^ lPc l) (ht : to < 2 ^ lPc l) : frs (cX (gnM l e net to) (bdf to net) (bdf net to)) 31 1 = frs (cS l e net to) (2 ^ lPn l - 1) 1 := by
  have h2 : 2 ^ lPn l ≤ 32 := Nat.pow_le_pow_right (n := 2) (by decide) h5
  have h1 : 0 < 2 ^ lPn l := Nat.two_pow_pos _
  have hG := gnM_lt l e net to
  rw [show 31 = (2 ^ lPn l - 1) + (32 - 2 ^ lPn l) by omega, frs_cut]
  · refine frs_cong _ _ (fun s hs1 hs2 => ?_)
    unfold cX cS
    rw [can_is h5 hn ht]
    by_cases hz : bdf s (gnM l e net to) = 0
    · have e1 : decide (s ≤ gnM l e net to) = true := decide_eq_true (sub_le_of hz)
      rw [e1, Bool.true_and]
    · rw [decide_eq_false hz, Bool.false_and, Bool.and_false]
  · intro j hj1 hj2
    unfold cX
    have e1 : decide (j ≤ gnM l e net to) = false := by simp; omega
    rw [e1, Bool.false_and]
theorem set_none {l : zL} {e : Nat → Int32} {net to : Nat} (h5 : lPn l ≤ 5) (hn : net < 2 ^ lPc l) (ht : to < 2 ^ lPc l) (hb : badB l e net to = true) : gset l e net to = none := by
  have h : frs (cS l e net to) (2 ^ lPn l - 1) 1 = 0 := by
    rw [← set_is h5 hn ht]
    unfold gnr
    rw [if_pos hb]
    refine frs_no _ _ (fun j h1 _ => ?_)
    unfold cX
    have e1 : decide (j ≤ 0) = false := by simp; omega
    rw [e1, Bool.false_and]
  unfold gset
  rw [h]
  by_cases c : mayv l to = true ∧ to ≠ net
  · rw [if_pos c]
    exact if_pos rfl
  · rw [if_neg c]
section xt
variable {N : Nat} {σ : zSt} {l : zL} {e : Nat → Int32} {Q : Int32 → zSt → Prop}
def befI (σ : zSt) (l : zL) (e : Nat → Int32) (net : Nat) : Prop := ∀ p, p < lPn l → σ.2.2.2 9 p = tw l e net p
theorem bef_F {σ τ : zSt} {net : Nat} (h : xF σ τ) (hb : befI σ l e net) : befI τ l e net := fun p hp => by rw [h.2.2.2 9 (by decide)]; exact hb p hp
theorem x_gainers {net to : Nat} (hN : 801 < N) (hG : xG σ l e) (hb : befI σ l e net) (ht : to < 2 ^ lPc l) (hQ : ∀ τ, xF σ τ → xG τ l e → Q (nI (gnM l e net to)) τ) : w_X0_gainers N (lN to) σ Q := by
  have h10 := hG.1.1
  refine loopU (S := zSt) (fun f p τ => w_X0_gainers_5 N Q f (lN to) (nI (msk (fun p => gnB l e net to p) p)) (nI p) τ) (fun p τ => xF σ τ ∧ xG τ l e) (lPn l) ?_ ?_ N 0 σ (Nat.zero_le _) (by omega) ⟨fr_r, hG⟩
  · intro f τ ⟨h0, h1⟩
    show b_X0_gainers_5 N (w_X0_gainers_5 N Q f) Q (lN to) (nI (msk (fun p => gnB l e net to p) (lPn l))) (nI (lPn l)) τ
    unfold b_X0_gainers_5
    rw [h1.2.2.1.1]
    exact br_t (nI_le (Nat.le_refl _) (by omega)) (hQ τ h0 h1)
  · intro f p τ hp ⟨h0, h1⟩ ih
    show b_X0_gainers_5 N (w_X0_gainers_5 N Q f) Q (lN to) (nI (msk (fun p => gnB l e net to p) p)) (nI p) τ
    unfold b_X0_gainers_5
    have hv : vp_in (nI p) 10 := vp_in_nI (by omega) (by decide)
    have e1 : (1 : Int32) <<< (nI p &&& 31) = nI (2 ^ p) := oneI (by omega)
    rw [h1.2.2.1.1, nI_clamp (n := p) (by omega), nI_1, e1, Int32.or_zero, fa_or]
    refine br_f (nI_ge hp (by omega)) (x_of hN h1 hp ht (fun υ f1 g1 => ⟨hv, ?_⟩))
    have ff := fr_t h0 f1
    have hm : msk (fun p => gnB l e net to p) (p + 1) = msk (fun p => gnB l e net to p) p ||| (if gnB l e net to p then 2 ^ p else 0) := rfl
    rw [bef_F ff hb p hp, lg_cmp_le]
    refine ⟨fun z => nm_e (nm_e ?_), fun z => nm_e (nm_e ?_)⟩
    · have hg : gnB l e net to p = false := by unfold gnB; rw [decide_eq_true z]; rfl
      have := ih υ ⟨ff, g1⟩
      rw [hm, hg] at this
      simp only [Bool.false_eq_true, if_false, Nat.or_zero] at this
      exact this
    · have hg : gnB l e net to p = true := by unfold gnB; rw [decide_eq_false z]; rfl
      have := ih υ ⟨ff, g1⟩
      rw [hm, hg] at this
      simp only [if_true] at this
      exact this
theorem x_firstMaker {made : Nat} (hN : 801 < N) (hG : xG σ l e) (hm : made < 2 ^ 45) (hA : Q (-1) σ) (hB : ∀ p, p < lPn l → ¬ made &&& stU 45 p = 0 → Q (nI p) σ) : w_X0_firstMaker N (lN made) σ Q := by
  have h10 := hG.1.1
  refine loopU (S := Unit) (fun f p _ => w_X0_firstMaker_2 N Q f (lN made) (nI p) σ) (fun _ _ => True) (lPn l) ?_ ?_ N 0 () (Nat.zero_le _) (by omega) trivial
  · intro f _ _
    show b_X0_firstMaker_2 N (w_X0_firstMaker_2 N Q f) Q (lN made) (nI (lPn l)) σ
    unfold b_X0_firstMaker_2
    rw [hG.2.2.1.1]
    exact br_t (nI_le (Nat.le_refl _) (by omega)) hA
  · intro f p _ hp _ ih
    show b_X0_firstMaker_2 N (w_X0_firstMaker_2 N Q f) Q (lN made) (nI p) σ
    unfold b_X0_firstMaker_2
    rw [hG.2.2.1.1, nI_clamp (n := p) (by omega), nI_1, hG.2.2.2.2.1.2 p (by omega), lg_cmp_eq, lg_cmp_eq, andz hm]
    exact br_f (nI_ge hp (by omega)) ⟨fun _ => hA, fun _ => ⟨vp_in_nI (by omega) (by decide), fun _ => nm_e (ih () trivial), fun w => hB p hp w⟩⟩
theorem x_least {G made cut : Nat} (hN : 801 < N) (hI : xI σ) (hGl : G < 32) (hm : made < 2 ^ 45) (hc : cut < 2 ^ 45) (hQ : Q (nI (frs (cX G made cut) 31 1)) σ) : w_X0_leastSet N (nI G) (lN made) (lN cut) σ Q := by
  have zz : ∀ a b : Nat, a < 2 ^ 45 → (lN (bdf a b) = 0 ↔ bdf a b = 0) := fun a b h => by
    have := bdf_lt (b := b) h
    rw [show (0 : Int64) = lN 0 from rfl, fb_lN_inj (by omega) (by omega)]
  refine loopU (S := Unit) (fun f s _ => w_X0_leastSet_3 N Q f (nI G) (lN made) (lN cut) (nI (s + 1)) σ) (fun s _ => frs (cX G made cut) (31 - s) (s + 1) = frs (cX G made cut) 31 1) 31 ?_ ?_ N 0 () (Nat.zero_le _) (by omega) rfl
  · intro f _ h
    show b_X0_leastSet_3 N (w_X0_leastSet_3 N Q f) Q (nI G) (lN made) (lN cut) (nI 32) σ
    unfold b_X0_leastSet_3
    refine br_t (nI_le (a := 32) (Nat.le_refl _) (by omega)) ?_
    have h : 0 = frs (cX G made cut) 31 1 := h
    rw [← h] at hQ
    exact hQ
  · intro f s _ hs h ih
    show b_X0_leastSet_3 N (w_X0_leastSet_3 N Q f) Q (nI G) (lN made) (lN cut) (nI (s + 1)) σ
    unfold b_X0_leastSet_3
    have hv : vp_in (nI (s + 1)) 32 := vp_in_nI (by omega) (by decide)
    have hI2 := hI (s + 1) (by omega)
    rw [nI_clamp (n := s + 1) (by omega), hI2.1, hI2.2, bdfJ, bdfJ, bdfI, nI_1, lg_cmp_eq, lg_cmp_eq, zz _ _ hm, zz _ _ hc]
    have hcs : cX G made cut (s + 1) = (decide (s + 1 ≤ G) && (decide (bdf (s + 1) G = 0) && (decide (bdf made (insM (s + 1)) = 0) && decide (bdf cut (touM (s + 1)) = 0)))) := rfl
    have hbl : bdf (s + 1) G < 2 ^ 6 := bdf_lt (by omega)
    rw [show 31 - s = (31 - (s + 1)) + 1 by omega, frs] at h
    have z32 : (nI (bdf (s + 1) G) = 0 ↔ bdf (s + 1) G = 0) := by rw [show (0 : Int32) = nI 0 from rfl, nI_eq (by omega) (by omega)]
    rw [z32]
    have go : cX G made cut (s + 1) = false → w_X0_leastSet_3 N Q f (nI G) (lN made) (lN cut) (nI (s + 1 + 1)) σ := fun hf => by
      rw [hf, if_neg (by decide)] at h
      exact ih () h
    refine br_f (nI_ge (b := 32) (by omega) (by omega)) ⟨fun q => ?_, fun q => ⟨fun q2 => ⟨hv, fun q3 => ⟨hv, fun q4 => ?_, fun q4 => nm_e (go ?_)⟩, fun q3 => nm_e (go ?_)⟩, fun q2 => nm_e (go ?_)⟩⟩
    · have q : G < s + 1 := (nI_ltI (by omega) (by omega)).mp q
      have hz : frs (cX G made cut) ((31 - (s + 1)) + 1) (s + 1) = 0 := frs_no _ _ (fun j h1 h2 => by
        unfold cX
        have e1 : decide (j ≤ G) = false := by simp; omega
        rw [e1, Bool.false_and])
      rw [frs] at hz
      rw [hz] at h
      rw [← h] at hQ
      exact hQ
    · have q : s + 1 ≤ G := by
        rcases Nat.lt_or_ge G (s + 1) with g | g
        · exact absurd (nI_lt g (by omega)) q
        · exact g
      rw [hcs, decide_eq_true q, decide_eq_true q2, decide_eq_true q3, decide_eq_true q4, if_pos (show (true && (true && (true && true))) = true from rfl)] at h
      rw [← h] at hQ
      exact hQ
    · rw [hcs, decide_eq_false q4]; simp
    · rw [hcs, decide_eq_false q3]; simp
    · rw [hcs, decide_eq_false q2]; simp
theorem x_firstSet {net : Nat} (hN : 1100 < N) (hG : xG σ l e) (hI : xI σ) (h5 : lPn l ≤ 5) (hn : net < 2 ^ lPc l) (hQ : ∀ τ, xF2 σ τ → xG τ l e → xO τ (fstO (gset l e net) (2 ^ lPc l) 0) → Q (b32 (fstO (gset l e net) (2 ^ lPc l) 0).isSome) τ) : w_X0_firstSet N (lN net) σ Q := by
  have h10 := hG.1.1
  have h45 := net45 h10 hn
  have hpc : lPc l ≤ 10 := tri_mono (b := 5) h5
  have h2p : 2 ^ lPc l ≤ 1024 := p2le hpc
  have h2n : 2 ^ lPn l ≤ 32 := Nat.pow_le_pow_right (n := 2) (by decide) h5
  unfold w_X0_firstSet
  rw [hG.2.2.1.1]
  refine br_t (nI_le (b := 5) h5 (by omega)) ?_
  refine loopU (S := zSt) (fun f p τ => w_X0_firstSet_15 N Q f (lN net) (nI p) τ) (fun p τ => xF2 σ τ ∧ xG τ l e ∧ ∀ q, q < p → τ.2.2.2 9 q = tw l e net q) (lPn l) ?_ ?_ N 0 σ (Nat.zero_le _) (by omega) ⟨fr_r, hG, fun q h => absurd h (Nat.not_lt_zero _)⟩
  · intro f τ ⟨h0, h1, h2⟩
    show b_X0_firstSet_15 N (w_X0_firstSet_15 N Q f) Q (lN net) (nI (lPn l)) τ
    unfold b_X0_firstSet_15
    rw [h1.2.2.1.1, h1.2.2.1.2.1, oneJ (by omega)]
    refine br_t (nI_le (Nat.le_refl _) (by omega)) (nm_e ?_)
    refine loopU (S := zSt) (fun f m υ => w_X0_firstSet_60 N Q f (lN net) (lN (2 ^ lPc l)) (lN m) υ) (fun m υ => xF2 σ υ ∧ xG υ l e ∧ befI υ l e net ∧ fstO (gset l e net) (2 ^ lPc l - m) m = fstO (gset l e net) (2 ^ lPc l) 0) (2 ^ lPc l) ?_ ?_ N 0 τ (Nat.zero_le _) (by omega) ⟨h0, h1, h2, rfl⟩
    · intro f υ ⟨u0, u1, u2, u3⟩
      show b_X0_firstSet_60 N (w_X0_firstSet_60 N Q f) Q (lN net) (lN (2 ^ lPc l)) (lN (2 ^ lPc l)) υ
      unfold b_X0_firstSet_60
      have hz := fst_e u3
      rw [hz] at hQ
      exact br_t ((lg_cmp_ge _ _).mpr (Int64.le_refl _)) (hQ υ u0 u1 xO_n)
    · intro f m υ hm ⟨u0, u1, u2, u3⟩ ih
      show b_X0_firstSet_60 N (w_X0_firstSet_60 N Q f) Q (lN net) (lN (2 ^ lPc l)) (lN m) υ
      unfold b_X0_firstSet_60
      have m45 := net45 h10 hm
      have hgl : gnM l e net m < 32 := by
        have := gnM_lt l e net m; omega
      have hg : gset l e net m = if mayv l m = true ∧ m ≠ net then (if frs (cX (gnM l e net m) (bdf m net) (bdf net m)) 31 1 = 0 then none else some (5, frs (cX (gnM l e net m) (bdf m net) (bdf net m)) 31 1, m)) else none := by
        unfold gset
        rw [set_is2 h5 hn hm]
      have hself : m = net → frs (cX (gnM l e net m) (bdf m net) (bdf net m)) 31 1 = 0 := fun q => by
        rw [set_is2 h5 hn hm, q]; exact gnr_self
      have hsl : frs (cX (gnM l e net m) (bdf m net) (bdf net m)) 31 1 < 32 := by
        rcases frs_lt (c := cX (gnM l e net m) (bdf m net) (bdf net m)) 31 1 with g | g <;> omega
      have h113 : ∀ ψ, xF2 σ ψ → xG ψ l e → befI ψ l e net → b_X0_firstSet_113 N (w_X0_firstSet_60 N Q f) Q (lN net) (lN (2 ^ lPc l)) (lN m) (lN (bdf m net)) ψ := by
        intro ψ p0 p1 p2
        unfold b_X0_firstSet_113
        rw [bdfJ, lN_1]
        refine x_gainers (by omega) p1 p2 hm (fun ω f1 g1 => ?_)
        have ff := fr_t p0 (xF_2 f1)
        refine x_least (by omega) (fun s hs => ?_) hgl (bdf_lt m45) (bdf_lt h45) ?_
        · rw [ff.2.2.2 7 (by decide), ff.2.2.2 8 (by decide)]; exact hI s hs
        generalize frs (cX (gnM l e net m) (bdf m net) (bdf net m)) 31 1 = s at *
        refine ⟨fun q => nm_e ?_, fun q => x_may (by omega) g1 hm ⟨fun q2 => nm_e ?_, fun q2 => ?_⟩⟩
        · have q : s = 0 := (nI_eq (b := 0) (by omega) (by omega)).mp q
          refine ih ω ⟨ff, g1, bef_F f1 p2, fst_n hm ?_ u3⟩
          rw [hg, if_pos q]
          by_cases c : mayv l m = true ∧ m ≠ net
          · rw [if_pos c]
          · rw [if_neg c]
        · refine ih ω ⟨ff, g1, bef_F f1 p2, fst_n hm ?_ u3⟩
          rw [hg, if_neg (fun c => by rw [b32_0.mp q2] at c; exact absurd c.1 (by decide))]
        · have q : ¬ s = 0 := fun z => q (by rw [z]; rfl)
          have hmy : mayv l m = true := by
            cases h : mayv l m with
            | true => rfl
            | false => exact absurd (b32_0.mpr h) q2
          rw [if_pos ⟨hmy, fun z => q (hself z)⟩, if_neg q] at hg
          have hs := (fst_s hm hg).symm.trans u3
          rw [← hs] at hQ
          exact x_found (s := 5) ff g1 hQ
      rw [bdfJ, lN_1]
      refine br_f (fun q => ?_) (nm_e (x_firstMaker (by omega) u1 (bdf_lt m45) ⟨fun _ => h113 υ u0 u1 u2, fun z => absurd rfl z⟩ (fun p hp hw => ⟨fun z => absurd z (m1_ne (by omega)), fun _ => x_of (by omega) u1 hp hm (fun ω f1 g1 => ⟨vp_in_nI (by omega) (by decide), ?_⟩)⟩)))
      · rw [lg_cmp_ge, pk_lLE (by omega) (by omega)] at q; omega
      · have b1 := bef_F f1 u2
        rw [nI_clamp (n := p) (by omega), b1 p hp, lg_cmp_le]
        refine ⟨fun z => nm_e (ih ω ⟨fr_t u0 (xF_2 f1), g1, b1, fst_n hm (set_none h5 hn hm ?_) u3⟩), fun z => h113 ω (fr_t u0 (xF_2 f1)) g1 b1⟩
        have hgp : gnB l e net m p = false := by unfold gnB; rw [decide_eq_true z]; rfl
        exact List.any_eq_true.mpr ⟨p, List.mem_range.mpr hp, by rw [hgp, decide_eq_true hw]; rfl⟩
  · intro f p τ hp ⟨h0, h1, h2⟩ ih
    show b_X0_firstSet_15 N (w_X0_firstSet_15 N Q f) Q (lN net) (nI p) τ
    unfold b_X0_firstSet_15
    rw [h1.2.2.1.1, nI_clamp (n := p) (by omega), nI_1]
    refine br_f (nI_ge hp (by omega)) (x_of (by omega) h1 hp hn (fun υ f1 g1 => ⟨vp_in_nI (by omega) (by decide), nm_e (nm_e (ih _ ⟨fr_B (fr_t h0 (xF_2 f1)) (by decide), xG_2 (fr_B fr_r (by decide)) g1, fun q hq => ?_⟩))⟩))
    rw [zB_4s]
    by_cases ee : q = p
    · subst ee; rw [pk_uLs]
    · rw [pk_uLn ee, f1.2.2.2 9 (by decide)]; exact h2 q (by omega)
end xt
