/-! steps in order, and where going leads -/
theorem xG_fr {σ τ : zSt} {l : zL} {e : Nat → Int32} {I J A B : List Nat} (f : fr I J A B σ τ) (hI : ∀ k, k ∈ [1, 2, 4, 25, 26, 27] → k ∉ I) (hJ : ∀ k, k ∈ [2, 4] → k ∉ J) (hA : ∀ k, k ∈ [3, 4, 5, 6, 7, 8, 9, 10, 11, 12, 28] → k ∉ A) (hB : ∀ k, k ∈ [2, 5, 6] → k ∉ B) (h : xG σ l e) : xG τ l e := by
  obtain ⟨g1, g2, g3, g4, g5, g6, g7, g8⟩ := h
  refine ⟨g1, g2, xP_fr f (fun k hk => hI k (subl (X := [1, 2]) rfl k hk)) (hJ 2 (by decide)) (fun k hk => hA k (subl (X := [5, 6, 7]) rfl k hk)) g3, xR_fr f (hI 4 (by decide)) (fun k hk => hA k (subl (X := [8, 9, 10, 11, 12]) rfl k hk)) g4, xT_fr f (fun k hk => hA k (subl (X := [3, 4]) rfl k hk)) (hB 2 (by decide)) g5, ?_, ?_, xE_fr f (fun k hk => hI k (subl (X := [25, 26, 27]) rfl k hk)) g8⟩
  · unfold xD
    rw [f.2.1 4 (hJ 4 (by decide)), f.2.2.1 28 (hA 28 (by decide))]; exact g6
  · unfold xC
    rw [f.2.2.2 5 (hB 5 (by decide)), f.2.2.2 6 (hB 6 (by decide))]; exact g7
theorem mG_fr {μ τ : zSt} {l : zL} {e : Nat → Int32} {I J A B : List Nat} (f : fr I J A B μ τ) (hI : ∀ k, k ∈ [14, 15, 16, 17, 19] → k ∉ I) (hJ : 1 ∉ J) (hA : ∀ k, k ∈ [1, 2, 3, 4, 5, 6, 7, 8, 10, 12, 13] → k ∉ A) (hB : ∀ k, k ∈ [1, 3] → k ∉ B) (h : mG μ l e) : mG τ l e := by
  obtain ⟨g1, g2, g3, g4, g5, g6, g7⟩ := h
  refine ⟨g1, g2, mP_fr f (fun k hk => hA k (subl (X := [1, 2, 3]) rfl k hk)) (hB 1 (by decide)) g3, mR_fr f (fun k hk => hA k (subl (X := [4, 5, 6, 7, 8, 10]) rfl k hk)) g4, mE_fr f (fun k hk => hI k (subl (X := [14, 16, 17]) rfl k hk)) g5, ?_, ?_⟩
  · rw [f.2.1 1 hJ]
    rcases g6 with h | ⟨net, h1, h2, h3⟩
    · exact Or.inl h
    · exact Or.inr ⟨net, h1, h2, mLk_fr f (hI 15 (by decide)) (fun k hk => hA k (subl (X := [12, 13]) rfl k hk)) h3⟩
  · intro h5
    rw [f.1 19 (hI 19 (by decide))]
    rcases g7 h5 with h | ⟨h1, h2⟩
    · exact Or.inl h
    · exact Or.inr ⟨h1, by unfold mTb; rw [f.2.2.2 3 (hB 3 (by decide))]; exact h2⟩
def stp (l : zL) (e : Nat → Int32) (net : Nat) : Nat := fa_first (fun k => movB l e net k) (lPc l)
def stI (l : zL) (e : Nat → Int32) (net : Nat) : Int32 := if stp l e net < lPc l then nI (stp l e net) else -1
def pth (l : zL) (e : Nat → Int32) (a : Nat) : Nat → Nat
  | 0 => a
  | i + 1 => pth l e a i ^^^ 2 ^ stp l e (pth l e a i)
def fiN (p : Nat → Nat) (s : Nat) : Nat := fa_first (fun i => decide (p i = p s)) s
/-- steps, steps of the ring (0: none), whether it ended -/
def wlk (l : zL) (e : Nat → Int32) (a : Nat) : Nat → Nat → Nat × Nat × Bool
  | 0, s => (s, 0, false)
  | f + 1, s => if stp l e (pth l e a s) < lPc l then (if s = 200 then (200, 0, false) else if fiN (pth l e a) (s + 1) < s + 1 then (s + 1, s + 1 - fiN (pth l e a) (s + 1), true) else wlk l e a f (s + 1)) else (s, 0, true)
def wlkR (l : zL) (e : Nat → Int32) (a : Nat) : Nat × Nat × Bool := wlk l e a 201 0
def xFw (σ τ : zSt) : Prop := fr [6, 30, 31, 32] [4] [13, 28, 29] [3, 5, 6, 10] σ τ
def mFw (σ τ : zSt) : Prop := fr [15, 18, 19, 24] [1, 4] [12, 13] [2, 3, 4, 5] σ τ
theorem xF_w {σ τ : zSt} (h : xF σ τ) : xFw σ τ := fr_w h (subl rfl) (subl rfl) (subl rfl) (subl rfl)
theorem mF_w {σ τ : zSt} (h : mF4 σ τ) : mFw σ τ := fr_w h (subl rfl) (subl rfl) (subl rfl) (subl rfl)
/-- the class's walk as it ended -/
def xWk (τ : zSt) (l : zL) (e : Nat → Int32) (a : Nat) (R : Nat × Nat × Bool) : Prop := R.1 ≤ 200 ∧ R.2.1 ≤ R.1 ∧ τ.1 30 = nI R.1 ∧ τ.1 31 = nI R.2.1 ∧ τ.1 32 = b32 R.2.2 ∧ (∀ i, i ≤ R.1 → τ.2.2.2 10 i = lN (pth l e a i) ∧ pth l e a i < 2 ^ lPc l) ∧ (R.2.1 ≠ 0 → pth l e a R.1 = pth l e a (R.1 - R.2.1))
section wx
variable {N : Nat} {σ : zSt} {l : zL} {e : Nat → Int32}
theorem x_firstPair {net : Nat} {Q : Int32 → zSt → Prop} (hN : 801 < N) (hG : xG σ l e) (he : eOk e) (hn : net < 2 ^ lPc l) (hQ : ∀ τ, xF σ τ → xG τ l e → Q (stI l e net) τ) : w_X9_firstPair N (lN net) σ Q := by
  have h10 := hG.1.1
  have hpc := pc_le h10
  refine loopU (S := zSt) (fun f k τ => w_X9_firstPair_2 N Q f (lN net) (nI k) τ) (fun k τ => xF σ τ ∧ xG τ l e ∧ ∀ j, j < k → movB l e net j = false) (lPc l) ?_ ?_ N 0 σ (Nat.zero_le _) (by omega) ⟨fr_r, hG, fun j h => absurd h (Nat.not_lt_zero _)⟩
  · intro f τ ⟨h0, h1, h2⟩
    show b_X9_firstPair_2 N (w_X9_firstPair_2 N Q f) Q (lN net) (nI (lPc l)) τ
    unfold b_X9_firstPair_2
    rw [h1.2.2.1.2.1]
    have := hQ τ h0 h1
    unfold stI stp at this
    rw [first_no h2, if_neg (Nat.lt_irrefl _)] at this
    exact br_t (nI_le (Nat.le_refl _) (by omega)) this
  · intro f k τ hk ⟨h0, h1, h2⟩ ih
    show b_X9_firstPair_2 N (w_X9_firstPair_2 N Q f) Q (lN net) (nI k) τ
    unfold b_X9_firstPair_2
    rw [h1.2.2.1.2.1]
    refine br_f (nI_ge hk (by omega)) (x_moves hN h1 he hk hn (fun υ f1 g1 => ?_))
    cases hm : movB l e net k with
    | false =>
      refine br_t rfl (nm_e ?_)
      rw [nI_1]
      exact ih υ ⟨fr_t h0 f1, g1, lt_s h2 hm⟩
    | true =>
      have := hQ υ (fr_t h0 f1) g1
      unfold stI stp at this
      rw [first_is hk hm h2, if_pos hk] at this
      exact br_f (show ¬ (1 : Int32) = 0 by decide) this
theorem x_since {p : Nat → Nat} {s : Nat} {Q : Int32 → zSt → Prop} (hN : 801 < N) (hs : s ≤ 200) (h30 : σ.1 30 = nI s) (hp : ∀ i, i ≤ s → σ.2.2.2 10 i = lN (p i) ∧ p i < 2 ^ 45) (hQ : Q (nI (s - fiN p s)) σ) : w_X9_stepsSinceThere N σ Q := by
  have hv : vp_in (nI s) 201 := vp_in_nI (by omega) (by decide)
  refine loopU (S := Unit) (fun f i _ => w_X9_stepsSinceThere_2 N Q f (nI i) σ) (fun i _ => ∀ j, j < i → (decide (p j = p s)) = false) s ?_ ?_ N 0 () (Nat.zero_le _) (by omega) (fun j h => absurd h (Nat.not_lt_zero _))
  · intro f _ h
    show b_X9_stepsSinceThere_2 N (w_X9_stepsSinceThere_2 N Q f) Q (nI s) σ
    unfold b_X9_stepsSinceThere_2
    rw [h30]
    unfold fiN at hQ
    rw [first_no h, Nat.sub_self] at hQ
    exact br_t (nI_le (Nat.le_refl _) (by omega)) hQ
  · intro f i _ hi h ih
    show b_X9_stepsSinceThere_2 N (w_X9_stepsSinceThere_2 N Q f) Q (nI i) σ
    unfold b_X9_stepsSinceThere_2
    rw [h30, nI_clamp (n := i) (by omega), nI_clamp (n := s) (by omega), (hp i (by omega)).1, (hp s (Nat.le_refl _)).1, lg_cmp_eq, fb_lN_inj (by have := (hp i (by omega)).2; omega) (by have := (hp s (Nat.le_refl _)).2; omega)]
    refine br_f (nI_ge hi (by omega)) ⟨vp_in_nI (by omega) (by decide), hv, fun q => ?_, fun q => nm_e ?_⟩
    · unfold fiN at hQ
      rw [first_is hi (decide_eq_true q) h] at hQ
      rw [pk_sub (by omega)]; exact hQ
    · rw [nI_1]
      exact ih () (lt_s h (decide_eq_false q))
theorem fiN_le (p : Nat → Nat) (s : Nat) : fiN p s ≤ s := fa_first_le _ _
theorem x_from {a : Nat} {Q : zSt → Prop} (hN : 801 < N) (hG : xG σ l e) (he : eOk e) (ha : a < 2 ^ lPc l) (hQ : ∀ τ, xFw σ τ → xG τ l e → xWk τ l e a (wlkR l e a) → Q τ) : w_X9_from N (lN a) σ Q := by
  have h10 := hG.1.1
  have hpc := pc_le h10
  unfold w_X9_from
  refine nm_e (nm_e (nm_e (nm_e ?_)))
  refine loopU (S := zSt) (fun f i τ => w_X9_from_24 N Q f (nI i) τ) (fun i τ => xFw σ τ ∧ xG τ l e ∧ ((i ≤ 200 ∧ τ.1 30 = nI i ∧ τ.1 31 = nI 0 ∧ τ.1 32 = 0 ∧ (∀ j, j ≤ i → τ.2.2.2 10 j = lN (pth l e a j) ∧ pth l e a j < 2 ^ lPc l) ∧ wlk l e a (201 - i) i = wlkR l e a) ∨ (xWk τ l e a (wlkR l e a) ∧ (i = 201 ∨ (wlkR l e a).2.2 = true)))) 201 ?_ ?_ N 0 _ (Nat.zero_le _) (by omega) ⟨fr_I (fr_I (fr_I (fr_B fr_r (by decide)) (by decide)) (by decide)) (by decide), xG_fr (I := [30, 31, 32]) (J := []) (A := []) (B := [10]) (fr_I (fr_I (fr_I (fr_B fr_r (by decide)) (by decide)) (by decide)) (by decide)) (notin rfl) (notin rfl) (notin rfl) (notin rfl) hG, Or.inl ⟨by omega, rfl, rfl, rfl, fun j hj => ?_, rfl⟩⟩
  · intro f τ ⟨h0, h1, h2⟩
    show b_X9_from_24 N (w_X9_from_24 N Q f) Q (nI 201) τ
    unfold b_X9_from_24
    rcases h2 with h2 | ⟨h2, _⟩
    · exact absurd h2.1 (by omega)
    · exact br_t (nI_lt (a := 200) (b := 201) (by omega) (by omega)) (hQ τ h0 h1 h2)
  · intro f i τ hi ⟨h0, h1, h2⟩ ih
    show b_X9_from_24 N (w_X9_from_24 N Q f) Q (nI i) τ
    unfold b_X9_from_24
    refine br_f (nI_nlt (a := 200) (b := i) (by omega) (by omega)) ?_
    rcases h2 with ⟨_, a1, a2, a3, a4, a5⟩ | ⟨h2, h3⟩
    · have hv : vp_in (nI i) 201 := vp_in_nI (by omega) (by decide)
      rw [show 201 - i = (200 - i) + 1 by omega, wlk] at a5
      refine br_t a3 ?_
      rw [a1, nI_clamp (n := i) (by omega), (a4 i (Nat.le_refl _)).1, nI_1]
      refine ⟨hv, x_firstPair hN h1 he (a4 i (Nat.le_refl _)).2 (fun υ f1 g1 => ?_)⟩
      have ff := fr_t h0 (xF_w f1)
      have b1 : υ.1 30 = nI i := (f1.1 30 (by decide)).trans a1
      have b2 : υ.1 31 = nI 0 := (f1.1 31 (by decide)).trans a2
      have b3 : υ.1 32 = 0 := (f1.1 32 (by decide)).trans a3
      have b4 : ∀ j, j ≤ i → υ.2.2.2 10 j = lN (pth l e a j) ∧ pth l e a j < 2 ^ lPc l := fun j hj => by rw [f1.2.2.2 10 (by decide)]; exact a4 j hj
      unfold stI
      by_cases hs : stp l e (pth l e a i) < lPc l
      · rw [if_pos hs] at a5 ⊢
        refine br_f (m1_ne (by omega)) ?_
        rw [b1]
        refine ⟨fun q => nm_e ?_, fun q => ⟨hv, ?_⟩⟩
        · have q : 200 ≤ i := (nI_leI (a := 200) (by omega) (by omega)).mp q
          have e200 : i = 200 := by omega
          rw [if_pos e200] at a5
          refine ih υ ⟨ff, g1, Or.inr ⟨?_, Or.inl (by omega)⟩⟩
          rw [← a5]
          subst e200
          exact ⟨Nat.le_refl _, Nat.zero_le _, b1, b2, b3, b4, fun z => absurd rfl z⟩
        · have q : i < 200 := by
            rcases Nat.lt_or_ge i 200 with g | g
            · exact g
            · exact absurd (nI_le (a := 200) g (by omega)) q
          rw [if_neg (show ¬ i = 200 by omega)] at a5
          rw [nI_1, nI_clamp (n := i) (by omega), nI_clamp (n := i + 1) (by omega), (b4 i (Nat.le_refl _)).1, oneJ (by omega), fb_xorL]
          refine ⟨vp_in_nI (by omega) (by decide), nm_e (nm_e ?_)⟩
          have ep : pth l e a i ^^^ 2 ^ stp l e (pth l e a i) = pth l e a (i + 1) := rfl
          have hpl : pth l e a (i + 1) < 2 ^ lPc l := Nat.xor_lt_two_pow (b4 i (Nat.le_refl _)).2 (p2lt hs)
          rw [ep]
          generalize hω : zI (zB υ 10 (vp_updL (υ.2.2.2 10) (i + 1) (lN (pth l e a (i + 1))))) 30 ((zB υ 10 (vp_updL (υ.2.2.2 10) (i + 1) (lN (pth l e a (i + 1))))).1 30 + 1) = ω
          have fω : fr [30] [] [] [10] υ ω := by rw [← hω]; exact fr_I (fr_B fr_r (by decide)) (by decide)
          have c1 : ω.1 30 = nI (i + 1) := by rw [← hω, zI_1s, zB_1, b1, nI_1]
          have c4 : ∀ j, j ≤ i + 1 → ω.2.2.2 10 j = lN (pth l e a j) ∧ pth l e a j < 2 ^ lPc l := fun j hj => by
            rw [← hω, zI_2, zB_4s]
            by_cases ej : j = i + 1
            · subst ej; rw [pk_uLs]; exact ⟨rfl, hpl⟩
            · rw [pk_uLn ej]; exact b4 j (by omega)
          clear hω
          refine x_since (p := pth l e a) (s := i + 1) hN (by omega) c1 (fun j hj => ⟨(c4 j hj).1, net45 h10 (c4 j hj).2⟩) (nm_e ?_)
          have hfl := fiN_le (pth l e a) (i + 1)
          rw [zI_1s]
          have fr1 : ∀ v w : Int32, xFw σ (zI (zI ω 31 v) 32 w) := fun v w => fr_I (fr_I (fr_t ff (fr_w fω (subl rfl) (subl rfl) (subl rfl) (subl rfl))) (by decide)) (by decide)
          have gg1 : ∀ v w : Int32, xG (zI (zI ω 31 v) 32 w) l e := fun v w => xG_fr (I := [30, 31, 32]) (J := []) (A := []) (B := [10]) (fr_I (fr_I (fr_w fω (subl rfl) (subl rfl) (subl rfl) (subl rfl)) (by decide)) (by decide)) (notin rfl) (notin rfl) (notin rfl) (notin rfl) g1
          refine ⟨fun z => nm_e (nm_e ?_), fun z => nm_e (nm_e ?_)⟩
          · have z : i + 1 - fiN (pth l e a) (i + 1) ≤ 0 := (nI_leI (b := 0) (by omega) (by omega)).mp z
            rw [if_neg (by omega)] at a5
            refine ih _ ⟨fr1 _ _, gg1 _ _, Or.inl ⟨by omega, c1, ?_, rfl, c4, ?_⟩⟩
            · show nI (i + 1 - fiN (pth l e a) (i + 1)) = nI 0
              rw [show i + 1 - fiN (pth l e a) (i + 1) = 0 by omega]
            · rw [show 201 - (i + 1) = 200 - i by omega]; exact a5
          · have z : ¬ i + 1 - fiN (pth l e a) (i + 1) ≤ 0 := fun w => z (nI_le (b := 0) w (by omega))
            have hlt : fiN (pth l e a) (i + 1) < i + 1 := by omega
            rw [if_pos hlt] at a5
            refine ih _ ⟨fr1 _ _, gg1 _ _, Or.inr ⟨?_, Or.inr (by rw [← a5])⟩⟩
            rw [← a5]
            refine ⟨by show i + 1 ≤ 200; omega, by show i + 1 - fiN (pth l e a) (i + 1) ≤ i + 1; omega, c1, rfl, rfl, c4, fun _ => ?_⟩
            have hy := of_decide_eq_true (fa_first_yes (fun j => decide (pth l e a j = pth l e a (i + 1))) (i + 1) hlt)
            show pth l e a (i + 1) = pth l e a (i + 1 - (i + 1 - fiN (pth l e a) (i + 1)))
            rw [show i + 1 - (i + 1 - fiN (pth l e a) (i + 1)) = fiN (pth l e a) (i + 1) by omega]
            exact hy.symm
      · rw [if_neg hs] at a5 ⊢
        refine br_t rfl (nm_e (nm_e ?_))
        refine ih _ ⟨fr_I ff (by decide), xG_fr (I := [30, 31, 32]) (J := []) (A := []) (B := [10]) (fr_I fr_r (by decide)) (notin rfl) (notin rfl) (notin rfl) (notin rfl) g1, Or.inr ⟨?_, Or.inr (by rw [← a5])⟩⟩
        rw [← a5]
        exact ⟨by show i ≤ 200; omega, Nat.zero_le _, b1, b2, rfl, b4, fun z => absurd rfl z⟩
    · have hend : (wlkR l e a).2.2 = true := by
        rcases h3 with h | h
        · omega
        · exact h
      have : ¬ τ.1 32 = 0 := by rw [h2.2.2.2.2.1, hend]; decide
      exact br_f this (hQ τ h0 h1 h2)
  · have e0 : j = 0 := by omega
    subst e0
    exact ⟨rfl, ha⟩
end wx
