/-! the class reads sums: loops -/
section xl
variable {N : Nat} {tp : Nat × (Nat → Nat)} {Q : Int32 → zSt → Prop} {W : zSt → (Int32 → zSt → Prop) → Prop} {S : zP → zE} {d : Nat} {σ τ : zSt} {s : zP}
theorem x_prL (hN : 1100 < N) (hW : cRd tp W S d) (hG : gS tp S dS true d) : ∀ (f' f i : Nat) (σ : zSt) (s : zP), i + f' = 801 → f' < f → i ≤ s.1 → xK σ tp s → 7 ≤ d + 1 + s.2.2.1 → xCo tp σ Q (prL tp S f' s) → w_X5_readProduct_11 N W Q f (nI i) σ
  | 0, f, i, σ, s, h1, h2, h3, hk, hd, hQ => by
    have := xK_le hk.1
    have := hk.1.1.1
    omega
  | f' + 1, 0, i, σ, s, h1, h2, h3, hk, hd, hQ => absurd h2 (Nat.not_lt_zero _)
  | f' + 1, f + 1, i, σ, s, h1, h2, h3, hk, hd, hQ => by
    have h8 := hk.1.1.1
    have ho := hk.1.2.2.2.1.1
    show b_X5_readProduct_11 N W (w_X5_readProduct_11 N W Q f) Q (nI i) σ
    have turn : ∀ v : Nat, v < 6 → ¬ kS tp s = 0 → s.1 < tp.1 → xCo tp σ Q (bdP (paP tp S (nxP tp s)) (fun u => prL tp S f' (emP v u))) → b_X5_readProduct_50 N W (w_X5_readProduct_11 N W Q f) Q (nI i) (nI v) σ := fun v hv hk0 hlt hq => by
      have n1 := nx_gt h8 hk0
      have hl := hk.2
      unfold b_X5_readProduct_50
      refine xK_tk hN hk hk0 (fun τ1 f1 k1 => ?_)
      refine x_part hN hW hG k1 hd (xCo_b (xCo_t f1 hq) (fun u τ2 e2 f2 k2 q2 => ?_))
      have g2 := gE_o (paP_g (s := nxP tp s) h8 hG hd ho) e2
      have l2 := gV_l g2
      have o2 : u.2.2.1 = s.2.2.1 := g2.2.1
      have p2 := g2.1
      have l2 : u.2.2.2.length + (nxP tp s).1 ≤ s.2.2.2.length + u.1 := l2
      refine xK_en (v := v) k2 (by omega) (fun τ3 f3 k3 => nm_e ?_)
      rw [nI_1]
      exact x_prL hN hW hG f' f (i + 1) τ3 (emP v u) (by omega) (by omega) (by show i + 1 ≤ u.1; omega) k3 (by show 7 ≤ d + 1 + u.2.2.1; omega) (xCo_t f3 q2)
    rw [prL] at hQ
    have big : ¬ kS tp s = 0 → ¬ (800 : Int32) ≤ nI i := fun q => by
      have h4 := kT_n0 q
      have h5 := sT_ge tp s.1
      exact nI_ge (b := 800) (by omega) (by decide)
    unfold b_X5_readProduct_11
    by_cases c1 : iS tp 42 s = true
    · rw [if_pos c1] at hQ
      refine br_f (big (iS_n c1)) (xK_is (c := 42) (by decide) hk.1 (br_f (by rw [c1]; decide) ?_))
      unfold b_X5_readProduct_36
      exact xK_is (c := 42) (by decide) hk.1 (br_f (by rw [c1]; decide) (turn 2 (by decide) (iS_n c1) (iS_lt c1) hQ))
    · have e1 : iS tp 42 s = false := by simpa using c1
      rw [if_neg c1] at hQ
      by_cases c2 : iS tp 47 s = true
      · rw [if_pos c2] at hQ
        refine br_f (big (iS_n c2)) (xK_is (c := 42) (by decide) hk.1 (br_t (by rw [e1]; rfl) (xK_is (c := 47) (by decide) hk.1 (br_f (by rw [c2]; decide) ?_))))
        unfold b_X5_readProduct_36
        exact xK_is (c := 42) (by decide) hk.1 (br_t (by rw [e1]; rfl) (turn 3 (by decide) (iS_n c2) (iS_lt c2) hQ))
      · have e2 : iS tp 47 s = false := by simpa using c2
        rw [if_neg c2] at hQ
        have hq := hQ.1 s σ rfl fr_r hk
        exact ⟨fun _ => hq, fun _ => xK_is (c := 42) (by decide) hk.1 (br_t (by rw [e1]; rfl) (xK_is (c := 47) (by decide) hk.1 (br_t (by rw [e2]; rfl) hq)))⟩
theorem x_prod (hN : 1100 < N) (hW : cRd tp W S d) (hG : gS tp S dS true d) (h : xK σ tp s) (hd : 7 ≤ d + 1 + s.2.2.1) (hQ : xCo tp σ Q (prP tp S s)) : w_X5_readProduct N W σ Q := by
  have h8 := h.1.1.1
  unfold prP at hQ
  unfold w_X5_readProduct
  refine x_part hN hW hG h hd (xCo_b hQ (fun u τ e f k q => ?_))
  have o2 := gV_o (gE_o (paP_g h8 hG hd h.1.2.2.2.1.1) e)
  exact x_prL hN hW hG 801 N 0 τ u rfl (by omega) (Nat.zero_le _) k (by omega) q
theorem x_suL (hN : 1100 < N) (hW : cRd tp W S d) (hG : gS tp S dS true d) : ∀ (f' f i : Nat) (σ : zSt) (s : zP), i + f' = 801 → f' < f → i ≤ s.1 → xK σ tp s → 7 ≤ d + 1 + s.2.2.1 → xCo tp σ Q (suL tp S f' s) → w_X5_readSum_11 N W Q f (nI i) σ
  | 0, f, i, σ, s, h1, h2, h3, hk, hd, hQ => by
    have := xK_le hk.1
    have := hk.1.1.1
    omega
  | f' + 1, 0, i, σ, s, h1, h2, h3, hk, hd, hQ => absurd h2 (Nat.not_lt_zero _)
  | f' + 1, f + 1, i, σ, s, h1, h2, h3, hk, hd, hQ => by
    have h8 := hk.1.1.1
    have ho := hk.1.2.2.2.1.1
    show b_X5_readSum_11 N W (w_X5_readSum_11 N W Q f) Q (nI i) σ
    have turn : ∀ v : Nat, v < 6 → ¬ kS tp s = 0 → s.1 < tp.1 → xCo tp σ Q (bdP (prP tp S (nxP tp s)) (fun u => suL tp S f' (emP v u))) → b_X5_readSum_50 N W (w_X5_readSum_11 N W Q f) Q (nI i) (nI v) σ := fun v hv hk0 hlt hq => by
      have n1 := nx_gt h8 hk0
      have hl := hk.2
      unfold b_X5_readSum_50
      refine xK_tk hN hk hk0 (fun τ1 f1 k1 => ?_)
      refine x_prod hN hW hG k1 hd (xCo_b (xCo_t f1 hq) (fun u τ2 e2 f2 k2 q2 => ?_))
      have g2 := gE_o (prP_g (s := nxP tp s) h8 hG hd ho) e2
      have l2 := gV_l g2
      have o2 : u.2.2.1 = s.2.2.1 := g2.2.1
      have p2 := g2.1
      have l2 : u.2.2.2.length + (nxP tp s).1 ≤ s.2.2.2.length + u.1 := l2
      refine xK_en (v := v) k2 (by omega) (fun τ3 f3 k3 => nm_e ?_)
      rw [nI_1]
      exact x_suL hN hW hG f' f (i + 1) τ3 (emP v u) (by omega) (by omega) (by show i + 1 ≤ u.1; omega) k3 (by show 7 ≤ d + 1 + u.2.2.1; omega) (xCo_t f3 q2)
    rw [suL] at hQ
    have big : ¬ kS tp s = 0 → ¬ (800 : Int32) ≤ nI i := fun q => by
      have h4 := kT_n0 q
      have h5 := sT_ge tp s.1
      exact nI_ge (b := 800) (by omega) (by decide)
    unfold b_X5_readSum_11
    by_cases c1 : iS tp 43 s = true
    · rw [if_pos c1] at hQ
      refine br_f (big (iS_n c1)) (xK_is (c := 43) (by decide) hk.1 (br_f (by rw [c1]; decide) ?_))
      unfold b_X5_readSum_36
      exact xK_is (c := 43) (by decide) hk.1 (br_f (by rw [c1]; decide) (turn 0 (by decide) (iS_n c1) (iS_lt c1) hQ))
    · have e1 : iS tp 43 s = false := by simpa using c1
      rw [if_neg c1] at hQ
      by_cases c2 : iS tp 45 s = true
      · rw [if_pos c2] at hQ
        refine br_f (big (iS_n c2)) (xK_is (c := 43) (by decide) hk.1 (br_t (by rw [e1]; rfl) (xK_is (c := 45) (by decide) hk.1 (br_f (by rw [c2]; decide) ?_))))
        unfold b_X5_readSum_36
        exact xK_is (c := 43) (by decide) hk.1 (br_t (by rw [e1]; rfl) (turn 1 (by decide) (iS_n c2) (iS_lt c2) hQ))
      · have e2 : iS tp 45 s = false := by simpa using c2
        rw [if_neg c2] at hQ
        have hq := hQ.1 s σ rfl fr_r hk
        exact ⟨fun _ => hq, fun _ => xK_is (c := 43) (by decide) hk.1 (br_t (by rw [e1]; rfl) (xK_is (c := 45) (by decide) hk.1 (br_t (by rw [e2]; rfl) hq)))⟩
theorem x_sum (h8 : tp.1 ≤ 800) (hN : 1100 < N) : ∀ d, cRd tp (w_X5_readSum N d) (suP tp d) d
  | 0 => fun σ s Q h hd hQ => by
    have := h.1.2.2.2.1.1
    omega
  | d + 1 => fun σ s Q h hd hQ => by
    have hW := x_sum h8 hN d
    have hG := suP_g (tp := tp) h8 d
    show wb_X5_readSum N (w_X5_readSum N d) σ Q
    rw [suP] at hQ
    unfold wb_X5_readSum
    refine x_prod hN hW hG h (by omega) (xCo_b hQ (fun u τ e f k q => ?_))
    have o2 := gV_o (gE_o (prP_g h8 hG (by omega) h.1.2.2.2.1.1) e)
    exact x_suL hN hW hG 801 N 0 τ u rfl (by omega) (Nat.zero_le _) k (by omega) q
end xl
