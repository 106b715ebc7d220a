/-! the class cuts the whole tape; takes one by one -/
def itT (tp : Nat × (Nat → Nat)) : Nat → Nat × Bool
  | 0 => (0, false)
  | t + 1 => (eT tp (sT tp (itT tp t).1), wnB tp (sT tp (itT tp t).1))
def kN (tp : Nat × (Nat → Nat)) (t : Nat) : Nat := kT tp (itT tp t).1 (itT tp t).2
def eC (tp : Nat × (Nat → Nat)) : Nat := enF (fun t => decide (¬ kN tp t = 0)) 0
def laT (tp : Nat × (Nat → Nat)) : Nat → Nat
  | 0 => 3
  | t + 1 => kU tp (sT tp (itT tp t).1)
section ca
variable {tp : Nat × (Nat → Nat)} {p t : Nat} {g : Bool}
theorem kT_u : kT tp p g = if (g = true ∧ sT tp p = p) ∧ (kU tp (sT tp p) = 1 ∨ kU tp (sT tp p) = 2) then 4 else kU tp (sT tp p) := by
  unfold kT kU
  by_cases hl : lB tp (sT tp p) = true
  · rw [if_pos hl, if_pos hl]
    by_cases c : g = true ∧ sT tp p = p
    · rw [if_pos c, if_pos ⟨c, Or.inl rfl⟩]
    · rw [if_neg c, if_neg (fun z => c z.1)]
  · rw [if_neg hl, if_neg hl]
    by_cases hd : dB tp (sT tp p) = true
    · rw [if_pos hd, if_pos hd]
      by_cases c : g = true ∧ sT tp p = p
      · rw [if_pos c, if_pos ⟨c, Or.inr rfl⟩]
      · rw [if_neg c, if_neg (fun z => c z.1)]
    · rw [if_neg hd, if_neg hd]
      by_cases c : sT tp p < tp.1
      · rw [if_pos c, if_neg (fun z => by omega)]
      · rw [if_neg c, if_neg (fun z => by omega)]
theorem kU_0 : kU tp p = 0 → tp.1 ≤ p := fun h => by
  unfold kU at h
  split at h
  · omega
  · split at h
    · omega
    · split at h <;> omega
theorem kU_e (h : tp.1 ≤ p) : kU tp p = 0 := by
  have h1 : ¬ lB tp p = true := fun e => by have := lB_lt e; omega
  have h2 : ¬ dB tp p = true := fun e => by have := dB_lt e; omega
  unfold kU; rw [if_neg h1, if_neg h2, if_neg (by omega)]
theorem kT_U0 : kT tp p g = 0 ↔ kU tp (sT tp p) = 0 := by
  rw [kT_u]
  split
  · omega
  · exact Iff.rfl
theorem kU_w : wnB tp p = true ↔ kU tp p = 1 ∨ kU tp p = 2 := by
  unfold wnB kU
  cases e : lB tp p with
  | true => simp
  | false =>
    cases e2 : dB tp p with
    | true => simp
    | false =>
      simp
      split <;> omega
theorem la_w : ∀ t, (itT tp t).2 = true ↔ laT tp t = 1 ∨ laT tp t = 2
  | 0 => by show false = true ↔ (3 = 1 ∨ 3 = 2); decide
  | t + 1 => kU_w
theorem it_le : ∀ t, (itT tp t).1 ≤ tp.1
  | 0 => Nat.zero_le _
  | t + 1 => eT_le (sT_le (it_le t))
theorem kN_s (h : kN tp t = 0) : kN tp (t + 1) = 0 := by
  have h1 := kT_0 h
  have h2 := sT_le (it_le (tp := tp) t)
  have e : eT tp (sT tp (itT tp t).1) = sT tp (itT tp t).1 := by
    have a1 : ¬ lB tp (sT tp (itT tp t).1) = true := fun e => by have := lB_lt e; omega
    have a2 : ¬ dB tp (sT tp (itT tp t).1) = true := fun e => by have := dB_lt e; omega
    unfold eT; rw [if_neg a1, if_neg a2, if_neg (by omega)]
  show kT tp (eT tp (sT tp (itT tp t).1)) _ = 0
  rw [e, kT_U0]
  have h3 := sT_ge tp (sT tp (itT tp t).1)
  exact kU_e (by omega)
theorem kN_le {u : Nat} (h : ¬ kN tp t = 0) (hu : u ≤ t) : ¬ kN tp u = 0 := fun e => by
  have : ∀ d, kN tp (u + d) = 0 := fun d => by
    induction d with
    | zero => exact e
    | succ d ih => exact kN_s ih
  have h2 := this (t - u)
  rw [show u + (t - u) = t by omega] at h2
  exact h h2
theorem it_ge (h8 : tp.1 ≤ 800) : ∀ t, (∀ u, u < t → ¬ kN tp u = 0) → t ≤ (itT tp t).1
  | 0, _ => Nat.zero_le _
  | t + 1, h => by
    have ih := it_ge h8 t (fun u hu => h u (by omega))
    have h1 := kT_n0 (h t (by omega))
    have h2 := sT_ge tp (itT tp t).1
    have h3 := eT_gt h8 h1
    show t + 1 ≤ eT tp (sT tp (itT tp t).1)
    omega
theorem kN_lt (h8 : tp.1 ≤ 800) (h : ¬ kN tp t = 0) : t < tp.1 := by
  have h1 := it_ge h8 t (fun u hu => kN_le h (by omega))
  have h2 := kT_n0 h
  have h3 := sT_ge tp (itT tp t).1
  omega
theorem eC_P (h8 : tp.1 ≤ 800) : ∀ q, (fun t => decide (¬ kN tp t = 0)) q = true → q < tp.1 := fun q h => kN_lt h8 (of_decide_eq_true h)
theorem eC_le (h8 : tp.1 ≤ 800) : eC tp ≤ tp.1 := enF_le (eC_P h8) (Nat.zero_le _)
theorem eC_0 (h8 : tp.1 ≤ 800) : kN tp (eC tp) = 0 := by
  have := enF_o (P := fun t => decide (¬ kN tp t = 0)) (fun q h => by have := eC_P h8 q h; omega) 0
  have h2 := of_decide_eq_false this
  exact Decidable.not_not.mp h2
theorem eC_n (h : t < eC tp) : ¬ kN tp t = 0 := of_decide_eq_true (enF_in (P := fun t => decide (¬ kN tp t = 0)) (p := 0) (Nat.zero_le _) h)
end ca
def xTks (σ : zSt) (tp : Nat × (Nat → Nat)) (c : Nat) : Prop := ∀ t, t < c → tkA σ t (kN tp t) (sT tp (itT tp t).1) (eT tp (sT tp (itT tp t).1)) ∧ (¬ kN tp t = 0 → σ.2.2.1 27 t = nI (vT tp (itT tp t).1))
section cb
variable {N : Nat} {σ τ : zSt} {tp : Nat × (Nat → Nat)}
theorem x_cut {Q : zSt → Prop} (hN : 1100 < N) (h : xTp σ tp) (hQ : ∀ τ, fr [23, 24] [] [24, 25, 26, 27] [] σ τ → τ.1 23 = nI (eC tp + 1) → xTks τ tp (eC tp + 1) → Q τ) : w_X8_cut N σ Q := by
  have h8 := h.1
  have hc := eC_le h8
  unfold w_X8_cut
  refine nm_e (nm_e ?_)
  refine loopU (fun f i (s : zSt) => w_X8_cut_14 N Q f (nI (laT tp i)) (nI i) s) (fun i s => fr [23, 24] [] [24, 25, 26, 27] [] σ s ∧ s.1 23 = nI i ∧ s.1 24 = nI (itT tp i).1 ∧ xTks s tp i) (eC tp + 1) ?_ ?_ N 0 _ (Nat.zero_le _) (by omega) ⟨fr_I (fr_I fr_r (by decide)) (by decide), rfl, rfl, fun t ht => absurd ht (Nat.not_lt_zero _)⟩
  · intro f s hs
    show b_X8_cut_14 N (w_X8_cut_14 N Q f) Q (nI (laT tp (eC tp + 1))) (nI (eC tp + 1)) s
    have e : laT tp (eC tp + 1) = 0 := kT_U0.mp (eC_0 h8)
    have hq := hQ s hs.1 hs.2.1 hs.2.2.2
    unfold b_X8_cut_14
    rw [e]
    exact ⟨fun _ => hq, fun _ => ⟨fun _ => hq, fun z => absurd rfl z⟩⟩
  · intro f i s hi hs ih
    obtain ⟨s1, s2, s3, s4⟩ := hs
    show b_X8_cut_14 N (w_X8_cut_14 N Q f) Q (nI (laT tp i)) (nI i) s
    have hT := xTp_f s1 (by decide) (by decide) h
    have hl0 : laT tp i ≠ 0 ∧ laT tp i ≤ 3 := by
      have k3 : ∀ s, kU tp s ≤ 3 := fun s => by
        unfold kU
        split
        · omega
        · split
          · omega
          · split <;> omega
      cases i with
      | zero => exact ⟨by show 3 ≠ 0; decide, by show 3 ≤ 3; decide⟩
      | succ t => exact ⟨fun z => eC_n (t := t) (by omega) (kT_U0.mpr z), k3 _⟩
    have hle := it_le (tp := tp) i
    have hst := sT_le hle
    have hsg := sT_ge tp (itT tp i).1
    have hlw := la_w (tp := tp) i
    -- the turn, by whether the token stands at a word's side
    have turn : ∀ (b : Bool), (b = true ↔ sT tp (itT tp i).1 = (itT tp i).1 ∧ (laT tp i = 1 ∨ laT tp i = 2)) → ∀ υ, fr [24] [] [] [] s υ → υ.1 24 = nI (sT tp (itT tp i).1) → b_X8_cut_59 N (w_X8_cut_14 N Q f) Q (nI i) (b32 b) υ := fun b hb υ f1 e1 => by
      have hTυ := xTp_f f1 (by decide) (by decide) hT
      have e23 : υ.1 23 = nI i := by rw [f1.1 23 (by decide)]; exact s2
      have hk := kT_u (tp := tp) (p := (itT tp i).1) (g := (itT tp i).2)
      have hside : ((itT tp i).2 = true ∧ sT tp (itT tp i).1 = (itT tp i).1) ↔ b = true := by rw [hb, hlw]; exact ⟨fun z => ⟨z.2, z.1⟩, fun z => ⟨z.2, z.1⟩⟩
      have kul : kU tp (sT tp (itT tp i).1) ≤ 3 := by
        unfold kU
        split
        · omega
        · split
          · omega
          · split <;> omega
      -- count up, go on
      have fin : ∀ ω, fr [23, 24] [] [24, 25, 26, 27] [] σ ω → ω.1 23 = nI i → ω.1 24 = nI (itT tp (i + 1)).1 → xTks ω tp (i + 1) → b_X8_cut_91 N (w_X8_cut_14 N Q f) Q (nI (kU tp (sT tp (itT tp i).1))) (nI i) ω := fun ω w1 w2 w3 w4 => by
        unfold b_X8_cut_91
        rw [w2, nI_1]
        refine nm_e (nm_e (ih _ ⟨fr_I w1 (by decide), zI_1s, w3, w4⟩))
      have old : ∀ ω, tkO υ ω i → ∀ t, t < i → tkA ω t (kN tp t) (sT tp (itT tp t).1) (eT tp (sT tp (itT tp t).1)) ∧ (¬ kN tp t = 0 → ω.2.2.1 27 t = nI (vT tp (itT tp t).1)) := fun ω o t ht => by
        obtain ⟨⟨q1, q2, q3⟩, q4⟩ := s4 t ht
        obtain ⟨o1, o2, o3, o4⟩ := o t (by omega)
        refine ⟨⟨o1.trans ?_, o2.trans ?_, o3.trans ?_⟩, fun z => o4.trans ?_⟩
        · rw [f1.2.2.1 24 (by decide)]; exact q1
        · rw [f1.2.2.1 25 (by decide)]; exact q2
        · rw [f1.2.2.1 26 (by decide)]; exact q3
        · rw [f1.2.2.1 27 (by decide)]; exact q4 z
      have fs : ∀ ω, fr [24] [] [24, 25, 26, 27] [] υ ω → fr [23, 24] [] [24, 25, 26, 27] [] σ ω := fun ω w => fr_t s1 (fr_t (fr_w f1 (subl rfl) (subl rfl) (subl rfl) (subl rfl)) (fr_w w (subl rfl) (subl rfl) (subl rfl) (subl rfl)))
      unfold b_X8_cut_59
      refine x_cutOne hN hTυ (by omega) e23 e1 hst (fun ω f2 o2 a2 p2 v2 => ?_)
      have w23 : ω.1 23 = nI i := by rw [f2.1 23 (by decide)]; exact e23
      have vOk : ¬ kN tp i = 0 → ω.2.2.1 27 i = nI (vT tp (itT tp i).1) := fun z => v2 (kT_n0 z)
      -- not glued
      have plain : kN tp i = kU tp (sT tp (itT tp i).1) → b_X8_cut_91 N (w_X8_cut_14 N Q f) Q (nI (kU tp (sT tp (itT tp i).1))) (nI i) ω := fun e => fin ω (fs ω f2) w23 p2 (fun t ht => by
        by_cases c : t = i
        · subst c
          rw [e]
          exact ⟨a2, fun z => vOk (by rw [e]; exact z)⟩
        · exact old ω o2 t (by omega))
      have glued : kN tp i = 4 → b_X8_cut_81 N (w_X8_cut_14 N Q f) Q (nI (kU tp (sT tp (itT tp i).1))) (nI i) ω := fun e => by
        unfold b_X8_cut_81
        rw [w23, nI_clamp (n := i) (by omega)]
        refine ⟨vp_in_nI (by omega) (by decide), nm_e (fin _ (fs _ (fr_A f2 (by decide))) w23 p2 (fun t ht => ?_))⟩
        by_cases c : t = i
        · subst c
          rw [e]
          exact ⟨⟨pk_us, a2.2.1, a2.2.2⟩, fun z => vOk (by omega)⟩
        · obtain ⟨⟨q1, q2, q3⟩, q4⟩ := old ω o2 t (by omega)
          exact ⟨⟨(pk_un c).trans q1, q2, q3⟩, q4⟩
      refine ⟨fun z => plain ?_, fun z => ⟨fun y => glued ?_, fun y => ⟨fun w => glued ?_, fun w => plain ?_⟩⟩⟩
      · have hb0 := b32_0.mp z
        show kT tp (itT tp i).1 (itT tp i).2 = _
        rw [hk, if_neg (fun q => by rw [hside.mp q.1] at hb0; exact absurd hb0 (by decide))]
      · have y : nI (kU tp (sT tp (itT tp i).1)) = nI 1 := y
        rw [nI_eq (by omega) (by omega)] at y
        show kT tp (itT tp i).1 (itT tp i).2 = _
        rw [hk, if_pos ⟨hside.mpr (b32_n.mp z), Or.inl y⟩]
      · have w : nI (kU tp (sT tp (itT tp i).1)) = nI 2 := w
        rw [nI_eq (by omega) (by omega)] at w
        show kT tp (itT tp i).1 (itT tp i).2 = _
        rw [hk, if_pos ⟨hside.mpr (b32_n.mp z), Or.inr w⟩]
      · have y : ¬ nI (kU tp (sT tp (itT tp i).1)) = nI 1 := y
        have w : ¬ nI (kU tp (sT tp (itT tp i).1)) = nI 2 := w
        rw [nI_eq (by omega) (by omega)] at y w
        show kT tp (itT tp i).1 (itT tp i).2 = _
        rw [hk, if_neg (fun q => q.2.elim y w)]
    have ne1 : nI (laT tp i) = (1 : Int32) ↔ laT tp i = 1 := nI_eq (b := 1) (by omega) (by decide)
    have ne2 : nI (laT tp i) = (2 : Int32) ↔ laT tp i = 2 := nI_eq (b := 2) (by omega) (by decide)
    unfold b_X8_cut_14
    refine br_f (show ¬ nI 801 ≤ nI i from nI_ge (by omega) (by decide)) (br_f (nI_ne0 (by omega) (by omega)) (nm_e ?_))
    rw [s3]
    refine x_skip hN hT hle s3 (fun υ f1 e1 => ?_)
    rw [e1, nI_eq (by omega) (by omega), ne1, ne2]
    refine ⟨fun z => ⟨fun y => turn true ⟨fun _ => ⟨z, Or.inl y⟩, fun _ => rfl⟩ υ f1 e1, fun y => ⟨fun w => turn true ⟨fun _ => ⟨z, Or.inr w⟩, fun _ => rfl⟩ υ f1 e1, fun w => turn false ⟨fun q => absurd q (by decide), fun q => q.2.elim (fun v => absurd v y) (fun v => absurd v w)⟩ υ f1 e1⟩⟩, fun z => turn false ⟨fun q => absurd q (by decide), fun q => absurd q.1 z⟩ υ f1 e1⟩
end cb
