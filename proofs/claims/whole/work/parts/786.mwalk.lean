/-! the reference's walk -/
def dst (p : Nat → Nat) (s : Nat) : Prop := ∀ i j, i < j → j ≤ s → p i ≠ p j
/-- the reference's walk as it ended -/
def mWk (τ : zSt) (l : zL) (e : Nat → Int32) (a : Nat) (R : Nat × Nat × Bool) : Prop := R.1 ≤ 200 ∧ R.2.1 ≤ R.1 ∧ τ.2.1 4 = lN (pth l e a R.1) ∧ pth l e a R.1 < 2 ^ lPc l ∧ τ.1 24 = (if R.2.1 = 0 then -1 else nI (R.1 - R.2.1)) ∧ (∀ i, i < R.1 → τ.2.2.2 5 i = lN (pth l e a i) ∧ pth l e a i < 2 ^ lPc l) ∧ (R.2.2 = false → R.2.1 = 0)
def wlN (R : Nat × Nat × Bool) : Int32 := if R.2.2 = true then nI R.1 else -1
section wm
variable {N : Nat} {μ : zSt} {l : zL} {e : Nat → Int32}
theorem m_firstStep {net : Nat} {Q : Int32 → zSt → Prop} (hN : 1100 < N) (hG : mG μ l e) (he : eOk e) (hn : net < 2 ^ lPc l) (hQ : ∀ τ, mF4 μ τ → mG τ l e → Q (stI l e net) τ) : w_X12_firstStep N (lN net) μ Q := by
  have h10 := hG.1.1
  have hpc := pc_le h10
  unfold w_X12_firstStep
  refine m_begins hN hG hn (fun τ0 f0 g0 w0 => ?_)
  refine loopU (S := zSt) (fun f k τ => w_X12_firstStep_7 N Q f (lN net) (nI k) τ) (fun k τ => mF τ0 τ ∧ mG τ l e ∧ ∀ j, j < k → movB l e net j = false) (lPc l) ?_ ?_ N 0 τ0 (Nat.zero_le _) (by omega) ⟨fr_r, g0, fun j h => absurd h (Nat.not_lt_zero _)⟩
  · intro f τ ⟨h0, h1, h2⟩
    show b_X12_firstStep_7 N (w_X12_firstStep_7 N Q f) Q (lN net) (nI (lPc l)) τ
    unfold b_X12_firstStep_7
    have := hQ τ (fr_t f0 (mF_4 h0)) h1
    unfold stI stp at this
    rw [first_no h2, if_neg (Nat.lt_irrefl _)] at this
    exact m_pairs h1.2.2.1.1 h10 (br_t (nI_le (Nat.le_refl _) (by omega)) this)
  · intro f k τ hk ⟨h0, h1, h2⟩ ih
    show b_X12_firstStep_7 N (w_X12_firstStep_7 N Q f) Q (lN net) (nI k) τ
    unfold b_X12_firstStep_7
    refine m_pairs h1.2.2.1.1 h10 (br_f (nI_ge hk (by show lPc l < 2 ^ 31; omega)) (m_isStep hN h1 he (now_F h0 w0) hk hn (fun υ f1 g1 => ?_)))
    cases hm : movB l e net k with
    | false =>
      refine br_t rfl (nm_e ?_)
      rw [nI_1]
      exact ih υ ⟨fr_t h0 f1, g1, lt_s h2 hm⟩
    | true =>
      have := hQ υ (fr_t f0 (mF_4 (fr_t h0 f1))) g1
      unfold stI stp at this
      rw [first_is hk hm h2, if_pos hk] at this
      exact br_f (show ¬ (1 : Int32) = 0 by decide) this
theorem m_goes {a : Nat} {Q : Int32 → zSt → Prop} (hN : 1100 < N) (hG : mG μ l e) (he : eOk e) (ha : a < 2 ^ lPc l) (hQ : ∀ τ, mFw μ τ → mG τ l e → mWk τ l e a (wlkR l e a) → Q (wlN (wlkR l e a)) τ) : w_X12_goesFrom N (lN a) μ Q := by
  have h10 := hG.1.1
  have hpc := pc_le h10
  unfold w_X12_goesFrom
  refine nm_e (nm_e (nm_e ?_))
  refine loopU (S := zSt) (fun f n τ => w_X12_goesFrom_19 N Q f (nI n) τ) (fun n τ => n ≤ 200 ∧ mFw μ τ ∧ mG τ l e ∧ τ.2.1 4 = lN (pth l e a n) ∧ τ.1 24 = -1 ∧ (∀ j, j ≤ n → τ.2.2.2 5 j = lN (pth l e a j) ∧ pth l e a j < 2 ^ lPc l) ∧ dst (pth l e a) n ∧ wlk l e a (201 - n) n = wlkR l e a) 201 ?_ ?_ N 0 _ (Nat.zero_le _) (by omega) ⟨by omega, fr_B (fr_I (fr_J fr_r (by decide)) (by decide)) (by decide), mG_fr (I := [24]) (J := [4]) (A := []) (B := [5]) (fr_B (fr_I (fr_J fr_r (by decide)) (by decide)) (by decide)) (notin rfl) (by decide) (notin rfl) (notin rfl) hG, rfl, rfl, fun j hj => ?_, fun i j h1 h2 => absurd h1 (by omega), rfl⟩
  · intro f τ ⟨h, _⟩
    exact absurd h (by omega)
  · intro f n τ hn201 ⟨hn, h0, h1, a1, a2, a3, a4, a5⟩ ih
    show b_X12_goesFrom_19 N (w_X12_goesFrom_19 N Q f) Q (nI n) τ
    unfold b_X12_goesFrom_19
    rw [a1]
    rw [show 201 - n = (200 - n) + 1 by omega, wlk] at a5
    refine br_f (nI_nlt (a := 200) (b := n) (by omega) (by omega)) (m_firstStep hN h1 he (a3 n (Nat.le_refl _)).2 (fun υ f1 g1 => ?_))
    have ff := fr_t h0 (mF_w f1)
    have b1 : υ.2.1 4 = lN (pth l e a n) := (f1.2.1 4 (by decide)).trans a1
    have b2 : υ.1 24 = -1 := (f1.1 24 (by decide)).trans a2
    have b3 : ∀ j, j ≤ n → υ.2.2.2 5 j = lN (pth l e a j) ∧ pth l e a j < 2 ^ lPc l := fun j hj => by rw [f1.2.2.2 5 (by decide)]; exact a3 j hj
    unfold stI
    by_cases hs : stp l e (pth l e a n) < lPc l
    · rw [if_pos hs] at a5 ⊢
      refine br_f (m1_ne (by omega)) ⟨fun q => ?_, fun q => ?_⟩
      · have e200 : n = 200 := (nI_eq (b := 200) (by omega) (by omega)).mp q
        rw [if_pos e200] at a5
        rw [← a5] at hQ
        subst e200
        exact hQ υ ff g1 ⟨Nat.le_refl _, Nat.zero_le _, b1, (b3 200 (Nat.le_refl _)).2, b2, fun i hi => b3 i (Nat.le_of_lt hi), fun _ => rfl⟩
      · have q : ¬ n = 200 := fun z => q (by rw [z]; rfl)
        rw [if_neg q] at a5
        rw [b1, oneJ (by omega), fb_xorL]
        have ep : pth l e a n ^^^ 2 ^ stp l e (pth l e a n) = pth l e a (n + 1) := rfl
        have hpl : pth l e a (n + 1) < 2 ^ lPc l := Nat.xor_lt_two_pow (b3 n (Nat.le_refl _)).2 (p2lt hs)
        have h45 := net45 h10 hpl
        rw [ep]
        refine nm_e ?_
        have hfl := fiN_le (pth l e a) (n + 1)
        refine loopU (S := zSt) (fun g i ω => w_X12_goesFrom_69 N (w_X12_goesFrom_19 N Q f) Q g (nI n) (nI i) ω) (fun i ω => mFw μ ω ∧ mG ω l e ∧ ω.2.1 4 = lN (pth l e a (n + 1)) ∧ (∀ j, j ≤ n → ω.2.2.2 5 j = lN (pth l e a j)) ∧ ω.1 24 = (if fiN (pth l e a) (n + 1) < i then nI (fiN (pth l e a) (n + 1)) else -1)) (n + 1) ?_ ?_ N 0 (zJ υ 4 (lN (pth l e a (n + 1)))) (Nat.zero_le _) (by omega) ⟨fr_J ff (by decide), mG_fr (I := []) (J := [4]) (A := []) (B := []) (fr_J fr_r (by decide)) (notin rfl) (by decide) (notin rfl) (notin rfl) g1, zJ_2s, fun j hj => (b3 j hj).1, by rw [if_neg (Nat.not_lt_zero _)]; exact b2⟩
        · intro g ω ⟨w0, w1, w2, w3, w4⟩
          show b_X12_goesFrom_69 N (w_X12_goesFrom_19 N Q f) (w_X12_goesFrom_69 N (w_X12_goesFrom_19 N Q f) Q g) Q (nI n) (nI (n + 1)) ω
          unfold b_X12_goesFrom_69
          rw [w2, w4, nI_1, nI_clamp (n := n + 1) (by omega)]
          refine br_t (nI_lt (Nat.lt_succ_self _) (by omega)) ?_
          by_cases hlt : fiN (pth l e a) (n + 1) < n + 1
          · rw [if_pos hlt]
            rw [if_pos hlt] at a5 w4
            rw [← a5] at hQ
            refine br_f (m1_ne (by omega)) (hQ ω w0 w1 ⟨by show n + 1 ≤ 200; omega, by show n + 1 - _ ≤ n + 1; omega, w2, hpl, ?_, fun i hi => ⟨w3 i (Nat.le_of_lt_succ hi), (b3 i (Nat.le_of_lt_succ hi)).2⟩, fun z => absurd (show true = false from z) (by decide)⟩)
            rw [w4]
            show nI (fiN (pth l e a) (n + 1)) = if n + 1 - fiN (pth l e a) (n + 1) = 0 then -1 else nI (n + 1 - (n + 1 - fiN (pth l e a) (n + 1)))
            rw [if_neg (by omega), show n + 1 - (n + 1 - fiN (pth l e a) (n + 1)) = fiN (pth l e a) (n + 1) by omega]
          · rw [if_neg hlt]
            rw [if_neg hlt] at a5 w4
            refine br_t rfl ⟨vp_in_nI (by omega) (by decide), nm_e (nm_e ?_)⟩
            refine ih _ ⟨by omega, fr_B w0 (by decide), mG_fr (I := []) (J := []) (A := []) (B := [5]) (fr_B fr_r (by decide)) (notin rfl) (by decide) (notin rfl) (notin rfl) w1, w2, w4, fun j hj => ?_, fun i j hij hj => ?_, by rw [show 201 - (n + 1) = 200 - n by omega]; exact a5⟩
            · rw [zB_4s]
              by_cases ej : j = n + 1
              · subst ej; rw [pk_uLs]; exact ⟨rfl, hpl⟩
              · rw [pk_uLn ej]; exact ⟨w3 j (by omega), (b3 j (by omega)).2⟩
            · by_cases ej : j = n + 1
              · subst ej
                intro z
                have hno := fa_first_no (fun i => decide (pth l e a i = pth l e a (n + 1))) (n + 1) i (by
                  show i < fiN (pth l e a) (n + 1)
                  omega)
                exact absurd z (of_decide_eq_false hno)
              · exact a4 i j hij (by omega)
        · intro g i ω hi ⟨w0, w1, w2, w3, w4⟩ ih2
          show b_X12_goesFrom_69 N (w_X12_goesFrom_19 N Q f) (w_X12_goesFrom_69 N (w_X12_goesFrom_19 N Q f) Q g) Q (nI n) (nI i) ω
          unfold b_X12_goesFrom_69
          rw [nI_clamp (n := i) (by omega), w3 i (by omega), w2, lg_cmp_eq, fb_lN_inj (by have := net45 h10 (b3 i (by omega)).2; omega) (by omega), nI_1 i]
          refine br_f (nI_nlt (by omega) (by omega)) ⟨vp_in_nI (by omega) (by decide), fun z => nm_e (nm_e ?_), fun z => nm_e ?_⟩
          · have efi : fiN (pth l e a) (n + 1) = i := first_is hi (decide_eq_true z) (fun j hj => decide_eq_false (fun z2 => a4 j i hj (by omega) (z2.trans z.symm)))
            refine ih2 _ ⟨fr_I w0 (by decide), mG_fr (I := [24]) (J := []) (A := []) (B := []) (fr_I fr_r (by decide)) (notin rfl) (by decide) (notin rfl) (notin rfl) w1, w2, w3, ?_⟩
            rw [zI_1s, efi, if_pos (Nat.lt_succ_self _)]
          · refine ih2 ω ⟨w0, w1, w2, w3, ?_⟩
            rw [w4]
            have hne : fiN (pth l e a) (n + 1) ≠ i := fun q => by
              have hy := of_decide_eq_true (fa_first_yes (fun j => decide (pth l e a j = pth l e a (n + 1))) (n + 1) (by
                show fiN (pth l e a) (n + 1) < n + 1
                omega))
              have hy : pth l e a (fiN (pth l e a) (n + 1)) = pth l e a (n + 1) := hy
              rw [q] at hy
              exact z hy
            by_cases c : fiN (pth l e a) (n + 1) < i
            · rw [if_pos c, if_pos (by omega)]
            · rw [if_neg c, if_neg (by omega)]
    · rw [if_neg hs] at a5 ⊢
      rw [← a5] at hQ
      exact br_t rfl (hQ υ ff g1 ⟨hn, Nat.zero_le _, b1, (b3 n (Nat.le_refl _)).2, b2, fun i hi => b3 i (Nat.le_of_lt hi), fun z => rfl⟩)
  · have e0 : j = 0 := by omega
    subst e0
    exact ⟨rfl, ha⟩
end wm
