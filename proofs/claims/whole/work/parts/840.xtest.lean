/-! the class reads tests -/
def xPe (σ : zSt) (n : Nat) (na : Nat → Nat) : Prop := n ≤ 10 ∧ σ.1 17 = nI n ∧ ∀ p, p < n → na p < 2 ^ 30 ∧ σ.2.2.1 15 p = nI (na p)
def cRf (tp : Nat × (Nat → Nat)) (n : Nat) (na : Nat → Nat) (W : zSt → (Int32 → zSt → Prop) → Prop) (S : zP → zE) (d : Nat) : Prop := ∀ σ s Q, xK σ tp s → xPe σ n na → 7 ≤ d + s.2.2.1 → xCo tp σ Q (S s) → W σ Q
theorem whI_i {a b : Nat} (ha : a < 100) (hb : b < 100) : whI a = whI b ↔ a = b := by
  unfold whI
  by_cases c : a = 99
  · by_cases c2 : b = 99
    · rw [if_pos c, if_pos c2]; exact ⟨fun _ => by omega, fun _ => rfl⟩
    · rw [if_pos c, if_neg c2]; exact ⟨fun e => absurd e (ne_m1 (by omega)), fun e => by omega⟩
  · by_cases c2 : b = 99
    · rw [if_neg c, if_pos c2]; exact ⟨fun e => absurd e (m1_ne (by omega)), fun e => by omega⟩
    · rw [if_neg c, if_neg c2, nI_eq (by omega) (by omega)]
theorem noF_lt {na : Nat → Nat} {n v : Nat} (hn : n ≤ 10) : noF na n v = 99 ∨ noF na n v < n := by
  rcases noG_lt (na := na) (v := v) n 0 with z | z
  · exact Or.inl z
  · exact Or.inr (by have := z.1; unfold noF; omega)
section xf
variable {N : Nat} {tp : Nat × (Nat → Nat)} {Q : Int32 → zSt → Prop} {W : zSt → (Int32 → zSt → Prop) → Prop} {S : zP → zE} {d n : Nat} {na : Nat → Nat} {σ τ : zSt} {s : zP}
theorem xPe_f (f : xFr σ τ) (h : xPe σ n na) : xPe τ n na := by
  unfold xPe; rw [f.1 17 (by decide), f.2.2.1 15 (by decide)]; exact h
theorem x_numOf {v : Nat} (hN : 1100 < N) (h : xPe σ n na) (hv : v < 2 ^ 30) (hQ : Q (whI (noF na n v)) σ) : w_X4_numberOf N (nI v) σ Q := by
  obtain ⟨h1, h2, h3⟩ := h
  refine loopU (S := Unit) (fun f k _ => w_X4_numberOf_2 N Q f (nI v) (nI k) σ) (fun k _ => noF na n v = noG na v (n - k) k) n ?_ ?_ N 0 () (Nat.zero_le _) (by omega) rfl
  · intro f _ e
    show b_X4_numberOf_2 N (w_X4_numberOf_2 N Q f) Q (nI v) (nI n) σ
    rw [e, Nat.sub_self] at hQ
    unfold b_X4_numberOf_2
    rw [h2]
    exact br_t (nI_le (Nat.le_refl _) (by omega)) hQ
  · intro f k _ hk e ih
    show b_X4_numberOf_2 N (w_X4_numberOf_2 N Q f) Q (nI v) (nI k) σ
    have h4 := h3 k hk
    rw [show n - k = (n - (k + 1)) + 1 by omega, noG] at e
    unfold b_X4_numberOf_2
    rw [h2, nI_clamp (n := k) (by omega), h4.2, nI_1, nI_eq (by omega) (by omega)]
    refine br_f (nI_ge hk (by omega)) ⟨vp_in_nI (by omega) (by decide), ⟨fun z => ?_, fun z => nm_e (ih () ?_)⟩⟩
    · rw [if_pos z] at e
      rw [e] at hQ
      unfold whI at hQ
      rw [if_neg (by omega)] at hQ
      exact hQ
    · rw [if_neg z] at e; exact e
theorem fl_x {k q : Nat} (hQ : ∀ τ, xFr σ τ → τ.1 8 = nI k → τ.1 9 = nI q → Q 0 τ) : w_X5_fail N (nI k) (nI q) σ Q := x_fail (hQ _ (fr_I (fr_I fr_r (by decide)) (by decide)) rfl rfl)
theorem xK_z (h : xK0 σ tp s) : zS tp s ≤ 800 := by
  have h1 := eT_le (sT_le (xK_le h))
  have h8 := h.1.1
  show eT tp (sT tp s.1) - sT tp s.1 ≤ 800
  omega
theorem x_seesName (h : xK0 σ tp s) (h1 : ∀ v, naP tp s = .ok v → Q 1 σ) (h2 : ∀ e τ, naP tp s = .error e → xFr σ τ → τ.1 8 = nI e.1 → τ.1 9 = nI e.2 → Q 0 τ) : w_X5_seesName N σ Q := by
  have hk4 : kS tp s ≤ 4 := kT_le
  have hz := xK_z h
  have e12 : σ.1 12 = nI (kS tp s) := h.2.2.1.2.1
  have e14 : σ.1 14 = nI (zS tp s) := h.2.2.1.2.2.2.1
  have e16 : σ.1 16 = whI (wS tp s) := h.2.2.1.2.2.2.2.2
  have n1 : nI (kS tp s) = (1 : Int32) ↔ kS tp s = 1 := nI_eq (b := 1) (by omega) (by decide)
  have n6 : nI (zS tp s) ≤ (6 : Int32) ↔ zS tp s ≤ 6 := nI_leI (b := 6) (by omega) (by decide)
  have hw : wS tp s = 99 ∨ wS tp s < 19 := by
    by_cases c : wS tp s = 99
    · exact Or.inl c
    · exact Or.inr (wT_lt c).1
  have nw : whI (wS tp s) = (-1 : Int32) ↔ wS tp s = 99 := whI_i (b := 99) (by omega) (by decide)
  have bad : ¬ (kS tp s = 1 ∧ wS tp s = 99) → b_X5_seesName_16 N Q σ := fun c => by
    have e : naP tp s = .error (1, sT tp s.1) := by unfold naP; rw [if_neg c]
    unfold b_X5_seesName_16
    rw [xK_13 h]
    exact fl_x (k := 1) (fun τ f h8 h9 => ⟨zb_0, h2 _ τ e f h8 h9⟩)
  unfold w_X5_seesName
  rw [e12, n1, e16, nw, e14, n6]
  refine ⟨fun c1 => ⟨fun c2 => ⟨fun c3 => ?_, fun c3 => ?_⟩, fun c2 => bad (fun z => c2 z.2)⟩, fun c1 => bad (fun z => c1 z.1)⟩
  · exact h1 (vT tp s.1) (by unfold naP; rw [if_pos ⟨c1, c2⟩, if_pos c3])
  · have e : naP tp s = .error (1, sT tp s.1 + 6) := by unfold naP; rw [if_pos ⟨c1, c2⟩, if_neg c3]
    rw [xK_13 h, show (6 : Int32) = nI 6 from rfl, nI_add]
    exact fl_x (k := 1) (fun τ f h8 h9 => ⟨fun _ => h2 _ τ e f h8 h9, fun z => absurd rfl z⟩)
theorem na_v {v : Nat} (h : naP tp s = .ok v) : v = vT tp s.1 ∧ kS tp s = 1 ∧ wS tp s = 99 ∧ zS tp s ≤ 6 ∧ v < 2 ^ 30 := by
  have g := gE_o (naP_g (tp := tp) (s := s)) h
  exact ⟨g.1, g.2.1, g.2.2.1, g.2.2.2, by rw [g.1]; exact vT_lt g.2.1 g.2.2.2⟩
theorem x_seesPerson {but : Nat} (hN : 1100 < N) (hb : but < 100) (h : xK0 σ tp s) (hp : xPe σ n na) (h1 : ∀ k, peP tp n na but s = .ok k → Q 1 σ) (h2 : ∀ e τ, peP tp n na but s = .error e → xFr σ τ → τ.1 8 = nI e.1 → τ.1 9 = nI e.2 → Q 0 τ) : w_X5_seesPerson N (whI but) σ Q := by
  unfold w_X5_seesPerson
  refine x_seesName h (fun v hv => br_f (by decide) ?_) (fun e τ he f h8 h9 => br_t rfl (h2 e τ (by unfold peP; rw [he]; rfl) f h8 h9))
  obtain ⟨v1, v2, v3, v4, v5⟩ := na_v hv
  have e15 : σ.1 15 = nI v := by rw [v1]; exact h.2.2.1.2.2.2.2.1 (by show ¬ kS tp s = 0; omega)
  rw [e15]
  refine x_numOf hN hp v5 ?_
  have hno : noF na n v < 100 := by
    have := noF_lt (na := na) (v := v) hp.1
    have := hp.1
    omega
  have nm : whI (noF na n v) = (-1 : Int32) ↔ noF na n v = 99 := whI_i (b := 99) hno (by decide)
  rw [nm, whI_i hno hb]
  have bad : (noF na n v = 99 ∨ noF na n v = but) → b_X5_seesPerson_31 N Q σ := fun c => by
    have e : peP tp n na but s = .error (3, sT tp s.1) := by unfold peP; rw [hv]; show (if noF na n v = 99 ∨ noF na n v = but then _ else _) = _; rw [if_pos c]
    unfold b_X5_seesPerson_31
    rw [xK_13 h]
    exact fl_x (k := 3) (fun τ f h8 h9 => ⟨fun _ => h2 _ τ e f h8 h9, fun z => absurd rfl z⟩)
  refine ⟨fun c => bad (Or.inl c), fun c => ⟨fun c2 => bad (Or.inr c2), fun c2 => ?_⟩⟩
  exact h1 (noF na n v) (by unfold peP; rw [hv]; show (if noF na n v = 99 ∨ noF na n v = but then _ else _) = _; rw [if_neg (fun z => z.elim c c2)])
theorem pe_v {k but : Nat} (h : peP tp n na but s = .ok k) : ∃ v, naP tp s = .ok v ∧ k = noF na n v ∧ k ≠ 99 ∧ k ≠ but := by
  unfold peP at h
  cases e : naP tp s with
  | error x => rw [e] at h; exact (nomatch h)
  | ok v =>
    rw [e] at h
    have h : (if noF na n v = 99 ∨ noF na n v = but then (.error (3, sT tp s.1) : Except (Nat × Nat) Nat) else .ok (noF na n v)) = .ok k := h
    by_cases c : noF na n v = 99 ∨ noF na n v = but
    · rw [if_pos c] at h; exact (nomatch h)
    · rw [if_neg c] at h
      have h : noF na n v = k := by injection h
      exact ⟨v, rfl, h.symm, by omega, by omega⟩
theorem x_seesNumber {lim : Nat} (hl : lim < 2 ^ 31) (h : xK0 σ tp s) (h1 : ∀ v, nuP tp lim s = .ok v → Q 1 σ) (h2 : ∀ e τ, nuP tp lim s = .error e → xFr σ τ → τ.1 8 = nI e.1 → τ.1 9 = nI e.2 → Q 0 τ) : w_X5_seesNumber N (nI lim) σ Q := by
  have hk4 : kS tp s ≤ 4 := kT_le
  have hz := xK_z h
  have e12 : σ.1 12 = nI (kS tp s) := h.2.2.1.2.1
  have e14 : σ.1 14 = nI (zS tp s) := h.2.2.1.2.2.2.1
  have n2 : nI (kS tp s) = (2 : Int32) ↔ kS tp s = 2 := nI_eq (b := 2) (by omega) (by decide)
  have n4 : nI (zS tp s) ≤ (4 : Int32) ↔ zS tp s ≤ 4 := nI_leI (b := 4) (by omega) (by decide)
  unfold w_X5_seesNumber
  rw [e12, n2, e14, n4, xK_13 h]
  refine ⟨fun c1 => ⟨fun c2 => ?_, fun c2 => ?_⟩, fun c1 => ?_⟩
  · have hv := vT_4 c1
    have e15 : σ.1 15 = nI (vT tp s.1) := h.2.2.1.2.2.2.2.1 (by show ¬ kS tp s = 0; omega)
    rw [e15, nI_leI (by omega) hl]
    refine ⟨fun c3 => h1 (vT tp s.1) (by unfold nuP; rw [if_pos c1, if_pos c2, if_pos c3]), fun c3 => ?_⟩
    have e : nuP tp lim s = .error (2, sT tp s.1) := by unfold nuP; rw [if_pos c1, if_pos c2, if_neg c3]
    exact fl_x (k := 2) (fun τ f h8 h9 => ⟨fun _ => h2 _ τ e f h8 h9, fun z => absurd rfl z⟩)
  · have e : nuP tp lim s = .error (1, sT tp s.1 + 4) := by unfold nuP; rw [if_pos c1, if_neg c2]
    rw [show (4 : Int32) = nI 4 from rfl, nI_add]
    exact fl_x (k := 1) (fun τ f h8 h9 => ⟨zb_0, h2 _ τ e f h8 h9⟩)
  · have e : nuP tp lim s = .error (1, sT tp s.1) := by unfold nuP; rw [if_neg c1]
    exact fl_x (k := 1) (fun τ f h8 h9 => ⟨zb_0, h2 _ τ e f h8 h9⟩)
theorem x_comp (hN : 1100 < N) (h : xK σ tp s) (hQ : xCo tp σ Q (cmP tp s)) : w_X5_readComparison N σ Q := by
  have h8 := h.1.1.1
  have ho := h.1.2.2.2.1.1
  have hl := h.2
  unfold cmP at hQ
  unfold w_X5_readComparison
  refine x_sum h8 hN 9 σ s _ h (by omega) (xCo_b hQ (fun s1 τ1 e1 f1 k1 q1 => ?_))
  have g1 := gE_o (suP_g h8 9 s (by omega) ho) e1
  have o1 := gV_o g1
  have l1 := gV_l g1
  have two : ∀ v : Nat, v < 9 → ¬ kS tp s1 = 0 → xCo tp τ1 Q (cmP2 tp v s1) → b_X5_readComparison_52 N Q (nI v) τ1 := fun v hv hk q => by
    unfold cmP2 at q
    unfold b_X5_readComparison_52
    refine br_f (m1_ne (by omega)) (xK_tk hN k1 hk (fun τ2 f2 k2 => x_sum h8 hN 9 τ2 _ _ k2 (by omega) (xCo_b (xCo_t f2 q) (fun u τ3 e3 f3 k3 q3 => ?_))))
    have n1 := nx_gt h8 hk
    have g3 := gE_o (suP_g h8 9 (nxP tp s1) (by omega) (by show s1.2.2.1 ≤ 6; omega)) e3
    have l3 : u.2.2.2.length + (nxP tp s1).1 ≤ s1.2.2.2.length + u.1 := gV_l g3
    exact xK_en (v := v) k3 (by omega) (fun τ4 f4 k4 => q3.1 _ τ4 rfl f4 k4)
  refine xK_is (c := 60) (by decide) k1.1 ⟨fun z => xK_is (c := 62) (by decide) k1.1 ⟨fun z2 => xK_is (c := 61) (by decide) k1.1 ⟨fun z3 => ?_, fun z3 => ?_⟩, fun z2 => ?_⟩, fun z => ?_⟩
  · have z := b32_0.mp z
    have z2 := b32_0.mp z2
    have z3 := b32_0.mp z3
    rw [if_neg (by rw [z]; decide), if_neg (by rw [z2]; decide), if_neg (by rw [z3]; decide)] at q1
    unfold b_X5_readComparison_52
    rw [xK_13 k1.1]
    exact br_t rfl (x_fl (k := 1) (xCo_z q1))
  · have z := b32_0.mp z
    have z2 := b32_0.mp z2
    have z3 := b32_n.mp z3
    rw [if_neg (by rw [z]; decide), if_neg (by rw [z2]; decide), if_pos z3] at q1
    exact two 8 (by decide) (iS_n z3) q1
  · have z := b32_0.mp z
    have z2 := b32_n.mp z2
    rw [if_neg (by rw [z]; decide), if_pos z2] at q1
    exact two 7 (by decide) (iS_n z2) q1
  · have z := b32_n.mp z
    rw [if_pos z] at q1
    exact two 6 (by decide) (iS_n z) q1
theorem x_boL (hN : 1100 < N) (hW : cRf tp n na W S d) (hG : gS tp S dF false d) : ∀ (f' f i : Nat) (σ : zSt) (s : zP), i + f' = 801 → f' < f → i ≤ s.1 → xK σ tp s → xPe σ n na → 7 ≤ d + s.2.2.1 → xCo tp σ Q (boL tp S f' s) → w_X5_readBoth_11 N W Q f (nI i) σ
  | 0, f, i, σ, s, h1, h2, h3, hk, hp, hd, hQ => by
    have := xK_le hk.1
    have := hk.1.1.1
    omega
  | f' + 1, 0, i, σ, s, h1, h2, h3, hk, hp, hd, hQ => absurd h2 (Nat.not_lt_zero _)
  | f' + 1, f + 1, i, σ, s, h1, h2, h3, hk, hp, hd, hQ => by
    have h8 := hk.1.1.1
    have ho := hk.1.2.2.2.1.1
    show b_X5_readBoth_11 N W (w_X5_readBoth_11 N W Q f) Q (nI i) σ
    rw [boL] at hQ
    have nw := xK_w (w := 8) (by decide) hk.1
    unfold b_X5_readBoth_11
    rw [show (8 : Int32) = nI 8 from rfl, nw]
    by_cases c1 : wS tp s = 8
    · rw [if_pos c1] at hQ
      obtain ⟨hlt, hk0⟩ := wS_lt (by decide) c1
      have n1 := nx_gt h8 hk0
      have hl := hk.2
      refine br_f (nI_ge (b := 800) (by omega) (by decide)) (br_t c1 (xK_tk hN hk hk0 (fun τ1 f1 k1 => ?_)))
      refine hW τ1 _ _ k1 (xPe_f f1 hp) hd (xCo_b (xCo_t f1 hQ) (fun u τ2 e2 f2 k2 q2 => ?_))
      have g2 := gE_o (hG (nxP tp s) hd ho) e2
      have o2 : u.2.2.1 = s.2.2.1 := g2.2.1
      have p2 := g2.1
      have l2 : u.2.2.2.length + (nxP tp s).1 ≤ s.2.2.2.length + u.1 := gV_l g2
      refine xK_en (v := 9) k2 (by omega) (fun τ3 f3 k3 => nm_e ?_)
      rw [nI_1]
      exact x_boL hN hW hG f' f (i + 1) τ3 (emP 9 u) (by omega) (by omega) (by show i + 1 ≤ u.1; omega) k3 (xPe_f f3 (xPe_f f2 (xPe_f f1 hp))) (by show 7 ≤ d + u.2.2.1; omega) (xCo_t f3 q2)
    · rw [if_neg c1] at hQ
      have hq := hQ.1 s σ rfl fr_r hk
      exact ⟨fun _ => hq, fun _ => br_f c1 hq⟩
theorem x_both (hN : 1100 < N) (hW : cRf tp n na W S d) (hG : gS tp S dF false d) (h : xK σ tp s) (hp : xPe σ n na) (hd : 7 ≤ d + s.2.2.1) (hQ : xCo tp σ Q (boP tp S s)) : w_X5_readBoth N W σ Q := by
  unfold boP at hQ
  unfold w_X5_readBoth
  refine hW σ s _ h hp hd (xCo_b hQ (fun u τ e f k q => ?_))
  have o2 := gV_o (gE_o (hG s hd h.1.2.2.2.1.1) e)
  exact x_boL hN hW hG 801 N 0 τ u rfl (by omega) (Nat.zero_le _) k (xPe_f f hp) (by omega) q
theorem x_teL (hN : 1100 < N) (hW : cRf tp n na W S d) (hG : gS tp S dF false d) : ∀ (f' f i : Nat) (σ : zSt) (s : zP), i + f' = 801 → f' < f → i ≤ s.1 → xK σ tp s → xPe σ n na → 7 ≤ d + s.2.2.1 → xCo tp σ Q (teL tp S f' s) → w_X5_readTest_11 N W Q f (nI i) σ
  | 0, f, i, σ, s, h1, h2, h3, hk, hp, hd, hQ => by
    have := xK_le hk.1
    have := hk.1.1.1
    omega
  | f' + 1, 0, i, σ, s, h1, h2, h3, hk, hp, hd, hQ => absurd h2 (Nat.not_lt_zero _)
  | f' + 1, f + 1, i, σ, s, h1, h2, h3, hk, hp, hd, hQ => by
    have h8 := hk.1.1.1
    have ho := hk.1.2.2.2.1.1
    show b_X5_readTest_11 N W (w_X5_readTest_11 N W Q f) Q (nI i) σ
    rw [teL] at hQ
    have nw := xK_w (w := 7) (by decide) hk.1
    unfold b_X5_readTest_11
    rw [show (7 : Int32) = nI 7 from rfl, nw]
    by_cases c1 : wS tp s = 7
    · rw [if_pos c1] at hQ
      obtain ⟨hlt, hk0⟩ := wS_lt (by decide) c1
      have n1 := nx_gt h8 hk0
      have hl := hk.2
      refine br_f (nI_ge (b := 800) (by omega) (by decide)) (br_t c1 (xK_tk hN hk hk0 (fun τ1 f1 k1 => ?_)))
      refine x_both hN hW hG k1 (xPe_f f1 hp) hd (xCo_b (xCo_t f1 hQ) (fun u τ2 e2 f2 k2 q2 => ?_))
      have g2 := gE_o (boP_g (s := nxP tp s) h8 hG hd ho) e2
      have o2 : u.2.2.1 = s.2.2.1 := g2.2.1
      have p2 := g2.1
      have l2 : u.2.2.2.length + (nxP tp s).1 ≤ s.2.2.2.length + u.1 := gV_l g2
      refine xK_en (v := 10) k2 (by omega) (fun τ3 f3 k3 => nm_e ?_)
      rw [nI_1]
      exact x_teL hN hW hG f' f (i + 1) τ3 (emP 10 u) (by omega) (by omega) (by show i + 1 ≤ u.1; omega) k3 (xPe_f f3 (xPe_f f2 (xPe_f f1 hp))) (by show 7 ≤ d + u.2.2.1; omega) (xCo_t f3 q2)
    · rw [if_neg c1] at hQ
      have hq := hQ.1 s σ rfl fr_r hk
      exact ⟨fun _ => hq, fun _ => br_f c1 hq⟩
theorem x_test (hN : 1100 < N) (hW : cRf tp n na W S d) (hG : gS tp S dF false d) (h : xK σ tp s) (hp : xPe σ n na) (hd : 7 ≤ d + s.2.2.1) (hQ : xCo tp σ Q (teP tp S s)) : w_X5_readTest N W σ Q := by
  have h8 := h.1.1.1
  unfold teP at hQ
  unfold w_X5_readTest
  refine x_both hN hW hG h hp hd (xCo_b hQ (fun u τ e f k q => ?_))
  have o2 := gV_o (gE_o (boP_g h8 hG hd h.1.2.2.2.1.1) e)
  exact x_teL hN hW hG 801 N 0 τ u rfl (by omega) (Nat.zero_le _) k (xPe_f f hp) (by omega) q
theorem x_fact (hN : 1100 < N) (hW : cRf tp n na W S d) (hG : gS tp S dF false d) (h : xK σ tp s) (hp : xPe σ n na) (hd : 7 ≤ d + 1 + s.2.2.1) (hQ : xCo tp σ Q (faP tp n na S s)) : wb_X5_readFact N W σ Q := by
  have h8 := h.1.1.1
  have ho := h.1.2.2.2.1.1
  have hl := h.2
  have hn := hp.1
  unfold faP at hQ
  unfold wb_X5_readFact
  rw [show (9 : Int32) = nI 9 from rfl, xK_w (w := 9) (by decide) h.1]
  refine ⟨fun c1 => ?_, fun c1 => ?_⟩
  · rw [if_pos c1] at hQ
    have hk := (wS_lt (by decide) c1).2
    refine x_opening hN h hk (xCo_b hQ (fun s2 τ2 e2 f2 k2 q2 => ?_))
    have g2 := gE_o (toP_g h8 hk) e2
    have g21 := g2.1
    have g22 := g2.2.1
    have g23 := g2.2.2.1
    refine hW τ2 s2 _ k2 (xPe_f f2 hp) (by omega) (xCo_b q2 (fun s3 τ3 e3 f3 k3 q3 => nm_e ?_))
    have g3 := gE_o (hG s2 (by omega) (by omega)) e3
    have o3 := gV_o g3
    have l3 := gV_l g3
    rw [g2.2.2.2] at l3
    exact xK_en (v := 11) (s := dnP s3) ⟨xK_dn k3.1 (by omega), k3.2⟩ (by show s3.2.2.2.length < s3.1; omega) (fun τ4 f4 k4 => q3.1 _ τ4 rfl (fr_t (fr_I fr_r (by decide)) f4) k4)
  rw [if_neg c1] at hQ
  refine xK_is (c := 91) (by decide) h.1 ⟨fun z => ?_, fun z => ?_⟩
  · have z := b32_0.mp z
    rw [if_neg (by rw [z]; decide)] at hQ
    rw [show (10 : Int32) = nI 10 from rfl, show (11 : Int32) = nI 11 from rfl, xK_w (w := 10) (by decide) h.1, xK_w (w := 11) (by decide) h.1]
    refine ⟨fun c2 => ?_, fun c2 => ⟨fun c3 => ?_, fun c3 => ?_⟩⟩
    · rw [if_pos c2] at hQ
      exact xK_lf (v := 12) hN h (wS_lt (by decide) c2).2 hQ
    · rw [if_neg c2, if_pos c3] at hQ
      have hk := (wS_lt (by decide) c3).2
      refine xK_tk hN h hk (fun τ1 f1 k1 => ?_)
      have hp1 := xPe_f f1 hp
      refine x_seesPerson (but := 99) hN (by decide) k1.1 hp1 (fun k e => br_f (by decide) ?_) (fun e τ he f h8 h9 => br_t rfl (hQ.2 e τ (by rw [he]; rfl) (fr_t f1 f) h8 h9))
      obtain ⟨v, ev, e1, e2, _⟩ := pe_v e
      obtain ⟨v1, v2, v3, v4, v5⟩ := na_v ev
      have e15 : τ1.1 15 = nI v := by rw [v1]; exact k1.1.2.2.1.2.2.2.2.1 (by show ¬ kS tp (nxP tp s) = 0; omega)
      have hk10 := noF_lt (na := na) (v := v) hn
      rw [e15]
      refine x_numOf hN hp1 v5 ?_
      rw [e] at hQ
      rw [show whI (noF na n v) = nI k by rw [← e1]; exact if_neg e2, show (30 : Int32) = nI 30 from rfl, nI_add]
      exact xK_lf hN k1 (by omega) (xCo_t f1 hQ)
    · rw [if_neg c2, if_neg c3] at hQ
      exact x_comp hN h (xCo_z hQ)
  · have z := b32_n.mp z
    rw [if_pos z] at hQ
    refine x_opening hN h (iS_n z) (xCo_b hQ (fun s2 τ2 e2 f2 k2 q2 => ?_))
    have g2 := gE_o (toP_g h8 (iS_n z)) e2
    have g22 := g2.2.1
    have g23 := g2.2.2.1
    refine x_test hN hW hG k2 (xPe_f f2 hp) (by omega) (xCo_b q2 (fun s3 τ3 e3 f3 k3 q3 => ?_))
    have o3 := gV_o (gE_o (teP_g h8 hG (by omega) (by omega)) e3)
    exact x_takeSign (c := 93) hN (by decide) k3 (fun _ => by omega) (xCo_q q3)
theorem x_facts (h8 : tp.1 ≤ 800) (hn : n ≤ 10) (hN : 1100 < N) : ∀ d, cRf tp n na (w_X5_readFact N d) (fcP tp n na d) d
  | 0 => fun σ s Q h hp hd hQ => by
    have := h.1.2.2.2.1.1
    omega
  | d + 1 => fun σ s Q h hp hd hQ => by
    show wb_X5_readFact N (w_X5_readFact N d) σ Q
    rw [fcP] at hQ
    exact x_fact hN (x_facts h8 hn hN d) (fcP_g h8 hn d) h hp (by omega) hQ
end xf
