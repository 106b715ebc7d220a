/-! the class reads sums -/
def xFr (σ τ : zSt) : Prop := fr [8, 9, 10, 11, 12, 13, 14, 15, 16, 21] [] [22] [] σ τ
def xK0 (σ : zSt) (tp : Nat × (Nat → Nat)) (s : zP) : Prop := xTok σ tp ∧ (∀ k, k < tp.1 → tp.2 k < 256) ∧ xPos σ tp s.1 s.2.1 ∧ (s.2.2.1 ≤ 6 ∧ σ.1 11 = nI s.2.2.1) ∧ (s.2.2.2.length ≤ 800 ∧ σ.1 21 = nI s.2.2.2.length ∧ ∀ k, k < s.2.2.2.length → σ.2.2.1 22 k = nI (s.2.2.2.getD k 0))
def xK (σ : zSt) (tp : Nat × (Nat → Nat)) (s : zP) : Prop := xK0 σ tp s ∧ s.2.2.2.length ≤ s.1
def xCo (tp : Nat × (Nat → Nat)) (σ : zSt) (Q : Int32 → zSt → Prop) (r : zE) : Prop := (∀ s τ, r = .ok s → xFr σ τ → xK τ tp s → Q 1 τ) ∧ (∀ e τ, r = .error e → xFr σ τ → τ.1 8 = nI e.1 → τ.1 9 = nI e.2 → Q 0 τ)
theorem gd_l : ∀ (l : List Nat) (v k : Nat), k < l.length → (l ++ [v]).getD k 0 = l.getD k 0
  | [], _, k, h => absurd h (Nat.not_lt_zero _)
  | a :: l, v, 0, _ => rfl
  | a :: l, v, k + 1, h => gd_l l v k (Nat.lt_of_succ_lt_succ h)
theorem gd_r : ∀ (l : List Nat) (v : Nat), (l ++ [v]).getD l.length 0 = v
  | [], v => rfl
  | a :: l, v => gd_r l v
section xs
variable {N : Nat} {σ τ : zSt} {tp : Nat × (Nat → Nat)} {s u : zP} {Q : Int32 → zSt → Prop} {r : zE}
theorem xFr_t {υ : zSt} (h : xFr σ τ) (h2 : xFr τ υ) : xFr σ υ := fr_t h h2
theorem xCo_t (f : xFr σ τ) (h : xCo tp σ Q r) : xCo tp τ Q r := ⟨fun s υ e f2 k => h.1 s υ e (fr_t f f2) k, fun e υ he f2 => h.2 e υ he (fr_t f f2)⟩
theorem xCo_b {g : zP → zE} {W : zSt → Prop} (h : xCo tp σ Q (bdP r g)) (h2 : ∀ s τ, r = .ok s → xFr σ τ → xK τ tp s → xCo tp τ Q (g s) → W τ) : xCo tp σ (fun v τ => (v = 0 → Q 0 τ) ∧ (¬ v = 0 → W τ)) r := by
  refine ⟨fun s τ e f k => ⟨fun z => absurd z (by decide), fun _ => h2 s τ e f k (xCo_t f ?_)⟩, fun e τ he f h8 h9 => ⟨fun _ => h.2 e τ ?_ f h8 h9, fun z => absurd rfl z⟩⟩
  · rw [e] at h; exact h
  · rw [he]; rfl
theorem xCo_q (h : xCo tp σ Q r) : xCo tp σ (fun v τ => (v = 0 → Q 0 τ) ∧ (¬ v = 0 → Q 1 τ)) r := ⟨fun s τ e f k => ⟨fun z => absurd z (by decide), fun _ => h.1 s τ e f k⟩, fun e τ he f h8 h9 => ⟨fun _ => h.2 e τ he f h8 h9, fun z => absurd rfl z⟩⟩
theorem xCo_z (h : xCo tp σ Q r) : xCo tp σ (fun v τ => zb v ∧ Q v τ) r := ⟨fun s τ e f k => ⟨zb_1, h.1 s τ e f k⟩, fun e τ he f h8 h9 => ⟨zb_0, h.2 e τ he f h8 h9⟩⟩
theorem xCo_e {Q' : Int32 → zSt → Prop} {e : Nat × Nat} (h : xCo tp σ Q (.error e)) (h2 : ∀ τ, Q 0 τ → Q' 0 τ) : xCo tp σ Q' (.error e) := ⟨fun s τ he => (nomatch he), fun e' τ he f h8 h9 => h2 τ (h.2 e' τ he f h8 h9)⟩
theorem x_fl {k q : Nat} (h : xCo tp σ Q (.error (k, q))) : w_X5_fail N (nI k) (nI q) σ Q := x_fail (h.2 (k, q) _ rfl (fr_I (fr_I fr_r (by decide)) (by decide)) rfl rfl)
theorem xK_le (h : xK0 σ tp s) : s.1 ≤ tp.1 := by
  obtain ⟨t, _, e, _⟩ := h.2.2.1.1
  have := it_le (tp := tp) t
  rw [e] at this
  exact this
theorem xK_take (hN : 1100 < N) (h : xK0 σ tp s) (hk : ¬ kS tp s = 0) (hQ : ∀ τ, fr [10, 12, 13, 14, 15, 16] [] [] [] σ τ → xK0 τ tp (nxP tp s) → Q 1 τ) : w_X5_take N σ Q := by
  obtain ⟨h1, h2, h3, h4, h5⟩ := h
  refine x_take hN h1 h3 hk (fun τ f p => hQ τ f ⟨xTok_f f (by decide) (notin rfl) h1, h2, p, ⟨h4.1, ?_⟩, h5.1, ?_, ?_⟩)
  · rw [f.1 11 (by decide)]; exact h4.2
  · rw [f.1 21 (by decide)]; exact h5.2.1
  · rw [f.2.2.1 22 (by decide)]; exact h5.2.2
theorem xK_em {v : Nat} {Q : zSt → Prop} (h : xK0 σ tp s) (hl : s.2.2.2.length < 800) (hQ : ∀ τ, fr [21] [] [22] [] σ τ → xK0 τ tp (emP v s) → Q τ) : w_X6_emit N (nI v) σ Q := by
  obtain ⟨h1, h2, h3, h4, h5⟩ := h
  unfold w_X6_emit
  rw [h5.2.1, nI_clamp (n := s.2.2.2.length) (by omega)]
  refine br_f (show ¬ nI 800 ≤ nI s.2.2.2.length from nI_ge hl (by decide)) ⟨vp_in_nI hl (by decide), nm_e (nm_e ?_)⟩
  have f : fr [21] [] [22] [] σ (zI (zA σ 22 (upd (σ.2.2.1 22) s.2.2.2.length (nI v))) 21 ((zA σ 22 (upd (σ.2.2.1 22) s.2.2.2.length (nI v))).1 21 + 1)) := fr_I (fr_A fr_r (by decide)) (by decide)
  refine hQ _ f ⟨xTok_f f (by decide) (notin rfl) h1, h2, xPos_f f (notin rfl) h3, ⟨h4.1, h4.2⟩, ?_, ?_, fun k hk => ?_⟩
  · show (s.2.2.2 ++ [v]).length ≤ 800
    rw [List.length_append]; exact hl
  · show σ.1 21 + 1 = nI (s.2.2.2 ++ [v]).length
    rw [h5.2.1, nI_1, List.length_append]; rfl
  · have hk : k < (s.2.2.2 ++ [v]).length := hk
    rw [List.length_append] at hk
    have hk : k < s.2.2.2.length + 1 := hk
    show upd (σ.2.2.1 22) s.2.2.2.length (nI v) k = nI ((s.2.2.2 ++ [v]).getD k 0)
    by_cases c : k = s.2.2.2.length
    · rw [c, pk_us, gd_r]
    · rw [pk_un c, gd_l _ _ _ (by omega)]
      exact h5.2.2 k (by omega)
theorem f_x {τ : zSt} (f : fr [10, 12, 13, 14, 15, 16] [] [] [] σ τ) : xFr σ τ := fr_w f (subl rfl) (subl rfl) (subl rfl) (subl rfl)
theorem f_e {τ : zSt} (f : fr [21] [] [22] [] σ τ) : xFr σ τ := fr_w f (subl rfl) (subl rfl) (subl rfl) (subl rfl)
theorem xK_tk (hN : 1100 < N) (h : xK σ tp s) (hk : ¬ kS tp s = 0) (hQ : ∀ τ, xFr σ τ → xK τ tp (nxP tp s) → Q 1 τ) : w_X5_take N σ Q :=
  xK_take hN h.1 hk (fun τ f k => hQ τ (f_x f) ⟨k, by
    have h1 := nx_gt h.1.1.1 hk
    have h2 := h.2
    show s.2.2.2.length ≤ (nxP tp s).1
    omega⟩)
/-- a leaf: written, then taken -/
theorem xK_lf {v : Nat} (hN : 1100 < N) (h : xK σ tp s) (hk : ¬ kS tp s = 0) (hQ : xCo tp σ Q (.ok (nxP tp (emP v s)))) : w_X6_emit N (nI v) σ (fun τ => w_X5_take N τ (fun r τ => zb r ∧ Q r τ)) := by
  have h8 := h.1.1.1
  have h1 := nx_gt h8 hk
  have h2 := h.2
  have h3 := kT_n0 hk
  have h4 := sT_ge tp s.1
  refine xK_em (v := v) h.1 (by omega) (fun τ f k => xK_take hN k hk (fun υ f2 k2 => ⟨zb_1, hQ.1 _ υ rfl (fr_t (f_e f) (f_x f2)) ⟨k2, ?_⟩⟩))
  show (s.2.2.2 ++ [v]).length ≤ (nxP tp s).1
  rw [List.length_append]
  show s.2.2.2.length + 1 ≤ _
  omega
/-- written at the end -/
theorem xK_en {v : Nat} {Q : zSt → Prop} (h : xK σ tp s) (hl : s.2.2.2.length < s.1) (hQ : ∀ τ, xFr σ τ → xK τ tp (emP v s) → Q τ) : w_X6_emit N (nI v) σ Q := by
  have h1 := xK_le h.1
  have h8 := h.1.1.1
  refine xK_em (v := v) h.1 (by omega) (fun τ f k => hQ τ (f_e f) ⟨k, ?_⟩)
  show (s.2.2.2 ++ [v]).length ≤ s.1
  rw [List.length_append]; exact hl
theorem xK_is {c : Nat} (hc : c < 256) (h : xK0 σ tp s) (hQ : Q (b32 (iS tp c s)) σ) : w_X5_isSign N (nI c) σ Q := x_isSign h.2.1 hc h.2.2.1 hQ
theorem xK_13 (h : xK0 σ tp s) : σ.1 13 = nI (sT tp s.1) := h.2.2.1.2.2.1
theorem xK_w {w : Nat} (hw : w < 19) (h : xK0 σ tp s) : σ.1 16 = nI w ↔ wS tp s = w := whI_c hw h.2.2.1
theorem xK_dn (h : xK0 σ tp s) (ho : 1 ≤ s.2.2.1) : xK0 (zI σ 11 (σ.1 11 - 1)) tp (dnP s) := by
  obtain ⟨h1, h2, h3, h4, h5⟩ := h
  have f : fr [11] [] [] [] σ (zI σ 11 (σ.1 11 - 1)) := fr_I fr_r (by decide)
  refine ⟨xTok_f f (by decide) (notin rfl) h1, h2, xPos_f f (notin rfl) h3, ⟨by show s.2.2.1 - 1 ≤ 6; omega, ?_⟩, h5⟩
  show σ.1 11 - 1 = nI (s.2.2.1 - 1)
  rw [h4.2, nI_s1 ho]
theorem x_takeSign {c : Nat} (hN : 1100 < N) (hc : c < 256) (h : xK σ tp s) (ho : c = 41 ∨ c = 93 → 1 ≤ s.2.2.1) (hQ : xCo tp σ Q (tsP tp c s)) : w_X5_takeSign N (nI c) σ Q := by
  unfold tsP at hQ
  unfold w_X5_takeSign
  refine xK_is hc h.1 ⟨fun z => ?_, fun z => ?_⟩
  · have z := b32_0.mp z
    rw [if_neg (by rw [z]; decide)] at hQ
    rw [xK_13 h.1]
    exact x_fl (k := 1) (xCo_z hQ)
  · have z := b32_n.mp z
    rw [if_pos z] at hQ
    have hk := iS_n z
    have n41 : nI c = (41 : Int32) ↔ c = 41 := nI_eq (b := 41) (by omega) (by decide)
    have n93 : nI c = (93 : Int32) ↔ c = 93 := nI_eq (b := 93) (by omega) (by decide)
    have dn : (c = 41 ∨ c = 93) → b_X5_takeSign_30 N Q σ := fun q => by
      rw [if_pos q] at hQ
      unfold b_X5_takeSign_30 b_X5_takeSign_40
      refine nm_e (xK_tk hN ⟨xK_dn h.1 (ho q), h.2⟩ hk (fun τ f k => ⟨zb_1, hQ.1 _ τ rfl (fr_t (fr_I fr_r (by decide)) f) k⟩))
    rw [n41, n93]
    refine ⟨fun q => dn (Or.inl q), fun q => ⟨fun q2 => dn (Or.inr q2), fun q2 => ?_⟩⟩
    rw [if_neg (fun w => w.elim q q2)] at hQ
    unfold b_X5_takeSign_40
    exact xK_tk hN h hk (fun τ f k => ⟨zb_1, hQ.1 _ τ rfl f k⟩)
theorem x_opening (hN : 1100 < N) (h : xK σ tp s) (hk : ¬ kS tp s = 0) (hQ : xCo tp σ Q (toP tp s)) : w_X5_takeOpening N σ Q := by
  have h4 := h.1.2.2.2.1
  unfold toP at hQ
  unfold w_X5_takeOpening
  rw [h4.2, xK_13 h.1]
  refine ⟨fun z => nm_e ?_, fun z => ?_⟩
  · have z : nI s.2.2.1 < nI 6 := z
    rw [nI_ltI (by omega) (by omega)] at z
    rw [if_pos z] at hQ
    have f : fr [11] [] [] [] σ (zI σ 11 (nI s.2.2.1 + 1)) := fr_I fr_r (by decide)
    refine xK_tk (s := upP s) hN ⟨⟨xTok_f f (by decide) (notin rfl) h.1.1, h.1.2.1, xPos_f f (notin rfl) h.1.2.2.1, ⟨by show s.2.2.1 + 1 ≤ 6; omega, ?_⟩, h.1.2.2.2.2⟩, h.2⟩ hk (fun τ f2 k => ⟨zb_1, hQ.1 _ τ rfl (fr_t (fr_w f (subl rfl) (subl rfl) (subl rfl) (subl rfl)) f2) k⟩)
    show nI s.2.2.1 + 1 = nI (s.2.2.1 + 1)
    rw [nI_1]
  · have z : ¬ nI s.2.2.1 < nI 6 := z
    rw [nI_ltI (by omega) (by omega)] at z
    rw [if_neg z] at hQ
    exact x_fl (k := 4) (xCo_z hQ)
/-- reading with a depth -/
def cRd (tp : Nat × (Nat → Nat)) (W : zSt → (Int32 → zSt → Prop) → Prop) (S : zP → zE) (d : Nat) : Prop := ∀ σ s Q, xK σ tp s → 7 ≤ d + s.2.2.1 → xCo tp σ Q (S s) → W σ Q
theorem gV_o {D : Nat} {b : Bool} (h : gV D b s u) : u.2.2.1 = s.2.2.1 := h.2.1
theorem gV_l {D : Nat} {b : Bool} (h : gV D b s u) : u.2.2.2.length + s.1 ≤ s.2.2.2.length + u.1 := by
  obtain ⟨_, _, e, a3, a4, _⟩ := h
  rw [a3, List.length_append]; omega
theorem gE_o {α : Type} {G : α → Prop} {r : Except (Nat × Nat) α} {a : α} (h : gE G r) (e : r = .ok a) : G a := by rw [e] at h; exact h
variable {W : zSt → (Int32 → zSt → Prop) → Prop} {S : zP → zE} {d : Nat}
theorem x_choice {v : Nat} (hN : 1100 < N) (hW : cRd tp W S d) (hG : gS tp S dS true d) (h : xK σ tp s) (hd : 7 ≤ d + 1 + s.2.2.1) (hk : ¬ kS tp s = 0) (hQ : xCo tp σ Q (chP tp S v s)) : w_X5_readChoice N W (nI v) σ Q := by
  have h8 := h.1.1.1
  have ho := h.1.2.2.2.1.1
  unfold chP at hQ
  unfold w_X5_readChoice
  refine xK_tk hN h hk (fun τ1 f1 k1 => xK_is (c := 40) (by decide) k1.1 ⟨fun z => ?_, fun z => ?_⟩)
  · have z := b32_0.mp z
    rw [if_neg (by rw [z]; decide)] at hQ
    rw [xK_13 k1.1]
    exact x_fl (k := 1) (xCo_z (xCo_t f1 hQ))
  · have z := b32_n.mp z
    rw [if_pos z] at hQ
    unfold chP2 at hQ
    have n1 := nx_gt h8 hk
    refine x_opening hN k1 (iS_n z) (xCo_b (xCo_t f1 hQ) (fun s2 τ2 e2 f2 k2 q2 => ?_))
    have g2 := gE_o (toP_g h8 (iS_n z)) e2
    have g22 : s.2.2.1 < 6 := g2.2.1
    have g23 : s2.2.2.1 = s.2.2.1 + 1 := g2.2.2.1
    have g24 : s2.2.2.2 = s.2.2.2 := g2.2.2.2
    refine hW τ2 s2 _ k2 (by omega) (xCo_b q2 (fun s3 τ3 e3 f3 k3 q3 => ?_))
    have g3 := gE_o (hG s2 (by omega) (by omega)) e3
    have o3 := gV_o g3
    have l3 := gV_l g3
    refine x_takeSign (c := 44) hN (by decide) k3 (fun q => absurd q (by decide)) (xCo_b q3 (fun s4 τ4 e4 f4 k4 q4 => ?_))
    have g4 := gE_o (tsP_g (c := 44) h8) e4
    have g42 : s4.2.2.1 = s3.2.2.1 := g4.2.1
    have g41 := g4.1
    refine hW τ4 s4 _ k4 (by omega) (xCo_b q4 (fun s5 τ5 e5 f5 k5 q5 => ?_))
    have g5 := gE_o (hG s4 (by omega) (by omega)) e5
    have o5 := gV_o g5
    have l5 := gV_l g5
    rw [g4.2.2] at l5
    rw [g24] at l3
    refine x_takeSign (c := 41) hN (by decide) k5 (fun q => by omega) (xCo_b q5 (fun s6 τ6 e6 f6 k6 q6 => ?_))
    have g6 := gE_o (tsP_g (c := 41) h8) e6
    have g61 := g6.1
    have g21 := g2.1
    have hl := h.2
    refine xK_en (v := v) k6 (by rw [g6.2.2]; omega) (fun τ7 f7 k7 => q6.1 _ τ7 rfl f7 k7)
theorem x_part (hN : 1100 < N) (hW : cRd tp W S d) (hG : gS tp S dS true d) (h : xK σ tp s) (hd : 7 ≤ d + 1 + s.2.2.1) (hQ : xCo tp σ Q (paP tp S s)) : w_X5_readPart N W σ Q := by
  have h8 := h.1.1.1
  have ho := h.1.2.2.2.1.1
  have hk4 : kS tp s ≤ 4 := kT_le
  have e12 : σ.1 12 = nI (kS tp s) := h.1.2.2.1.2.1
  have e14 : σ.1 14 = nI (zS tp s) := h.1.2.2.1.2.2.2.1
  have hz : zS tp s ≤ 800 := by
    have h1 := eT_le (sT_le (xK_le h.1))
    show eT tp (sT tp s.1) - sT tp s.1 ≤ 800
    omega
  have n2 : nI (kS tp s) = (2 : Int32) ↔ kS tp s = 2 := nI_eq (b := 2) (by omega) (by decide)
  have n4 : nI (zS tp s) ≤ (4 : Int32) ↔ zS tp s ≤ 4 := nI_leI (b := 4) (by omega) (by decide)
  unfold paP at hQ
  unfold w_X5_readPart w_X5_seesNumber
  rw [e12, n2, e14, n4, xK_13 h.1]
  refine ⟨fun c1 => ?_, fun c1 => ?_⟩
  · -- a number
    rw [if_pos c1] at hQ
    have hv := vT_4 c1
    have e15 : σ.1 15 = nI (vT tp s.1) := h.1.2.2.1.2.2.2.2.1 (by show ¬ kS tp s = 0; omega)
    refine br_t c1 ⟨fun c => ?_, fun c => ?_⟩
    · rw [if_pos c] at hQ
      rw [e15]
      refine br_t (show nI (vT tp s.1) ≤ nI 1000000 from nI_le (by omega) (by decide)) (br_f (by decide) ?_)
      rw [show (100 : Int32) = nI 100 from rfl, e15, nI_add]
      exact xK_lf hN h (by omega) hQ
    · rw [if_neg c] at hQ
      rw [show (4 : Int32) = nI 4 from rfl, nI_add]
      exact x_fl (k := 1) (xCo_e hQ (fun τ q => ⟨zb_0, fun _ => q, fun z => absurd rfl z⟩))
  rw [if_neg c1] at hQ
  refine xK_is (c := 40) (by decide) h.1 ⟨fun z => ?_, fun z => ?_⟩
  · have z := b32_0.mp z
    rw [if_neg (by rw [z]; decide)] at hQ
    have ch : (wS tp s = 17 ∨ wS tp s = 18) → b_X5_readPart_94 N W Q σ := fun c => by
      unfold b_X5_readPart_94 b_X5_readPart_109
      have hk : ¬ kS tp s = 0 := by
        rcases c with c | c
        · exact (wS_lt (by decide) c).2
        · exact (wS_lt (by decide) c).2
      refine ⟨fun q => ?_, fun q => ?_⟩
      · rw [if_pos ((xK_w (w := 17) (by decide) h.1).mp q)] at hQ
        exact x_choice hN hW hG h hd hk (xCo_z hQ)
      · have q17 : ¬ wS tp s = 17 := fun w => q ((xK_w (w := 17) (by decide) h.1).mpr w)
        rw [if_neg q17, if_pos (c.resolve_left q17)] at hQ
        exact x_choice hN hW hG h hd hk (xCo_z hQ)
    have w16 : σ.1 16 = whI (wS tp s) := h.1.2.2.1.2.2.2.2.2
    refine ⟨fun q => ch (Or.inl ((xK_w (w := 17) (by decide) h.1).mp q)), fun q => ⟨fun q2 => ch (Or.inr ((xK_w (w := 18) (by decide) h.1).mp q2)), fun q2 => ?_⟩⟩
    have q17 : ¬ wS tp s = 17 := fun w => q ((xK_w (w := 17) (by decide) h.1).mpr w)
    have q18 : ¬ wS tp s = 18 := fun w => q2 ((xK_w (w := 18) (by decide) h.1).mpr w)
    rw [if_neg q17, if_neg q18] at hQ
    have bad : ¬ (12 ≤ wS tp s ∧ wS tp s ≤ 16) → b_X5_readPart_153 N W Q σ := fun c => by
      rw [if_neg c] at hQ
      unfold b_X5_readPart_153
      rw [xK_13 h.1]
      exact x_fl (k := 1) (xCo_z hQ)
    rw [w16]
    by_cases c99 : wS tp s = 99
    · have e : whI (wS tp s) = -1 := if_pos c99
      rw [e]
      exact br_t (by decide) (bad (by omega))
    · have hlt : wS tp s < 19 := (wT_lt c99).1
      have e : whI (wS tp s) = nI (wS tp s) := if_neg c99
      have n12 : nI (wS tp s) < (12 : Int32) ↔ wS tp s < 12 := nI_ltI (b := 12) (by omega) (by decide)
      have n16 : (16 : Int32) < nI (wS tp s) ↔ 16 < wS tp s := nI_ltI (a := 16) (by decide) (by omega)
      rw [e, n12, n16]
      refine ⟨fun y => bad (by omega), fun y => ⟨fun y2 => bad (by omega), fun y2 => ?_⟩⟩
      rw [if_pos ⟨by omega, by omega⟩] at hQ
      rw [show (20 : Int32) = nI 20 from rfl, nI_add, show (12 : Int32) = nI 12 from rfl, pk_sub (by omega), show 20 + wS tp s - 12 = 20 + (wS tp s - 12) by omega]
      exact xK_lf hN h (wS_lt (w := wS tp s) hlt rfl).2 hQ
  · have z := b32_n.mp z
    rw [if_pos z] at hQ
    refine x_opening hN h (iS_n z) (xCo_b hQ (fun s2 τ2 e2 f2 k2 q2 => ?_))
    have g2 := gE_o (toP_g h8 (iS_n z)) e2
    have g22 := g2.2.1
    have g23 := g2.2.2.1
    refine hW τ2 s2 _ k2 (by omega) (xCo_b q2 (fun s3 τ3 e3 f3 k3 q3 => ?_))
    have o3 := gV_o (gE_o (hG s2 (by omega) (by omega)) e3)
    exact x_takeSign (c := 41) hN (by decide) k3 (fun _ => by omega) (xCo_q q3)
end xs
