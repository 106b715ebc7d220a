/-! the class takes what comes next -/
def xTok (σ : zSt) (tp : Nat × (Nat → Nat)) : Prop := tp.1 ≤ 800 ∧ σ.1 23 = nI (eC tp + 1) ∧ xTks σ tp (eC tp + 1) ∧ (∀ i, i < 19 → σ.2.2.1 14 i = nI (owdN i)) ∧ σ.1 8 = 0 ∧ σ.1 9 = -1
def xPos (σ : zSt) (tp : Nat × (Nat → Nat)) (p : Nat) (g : Bool) : Prop := (∃ t, t ≤ eC tp ∧ itT tp t = (p, g) ∧ σ.1 10 = nI t) ∧ σ.1 12 = nI (kT tp p g) ∧ σ.1 13 = nI (sT tp p) ∧ σ.1 14 = nI (eT tp (sT tp p) - sT tp p) ∧ (¬ kT tp p g = 0 → σ.1 15 = nI (vT tp p)) ∧ σ.1 16 = whI (wT tp p g)
section xt
variable {N : Nat} {σ τ : zSt} {tp : Nat × (Nat → Nat)} {p : Nat} {g : Bool} {Q : Int32 → zSt → Prop}
theorem xTok_f {I J A B : List Nat} (f : fr I J A B σ τ) (hI : ∀ k, k ∈ [8, 9, 23] → k ∉ I) (hA : ∀ k, k ∈ [14, 24, 25, 26, 27] → k ∉ A) (h : xTok σ tp) : xTok τ tp := by
  obtain ⟨h1, h2, h3, h4, h5, h6⟩ := h
  refine ⟨h1, by rw [f.1 23 (hI 23 (by decide))]; exact h2, fun t ht => ?_, fun i hi => by rw [f.2.2.1 14 (hA 14 (by decide))]; exact h4 i hi, by rw [f.1 8 (hI 8 (by decide))]; exact h5, by rw [f.1 9 (hI 9 (by decide))]; exact h6⟩
  obtain ⟨⟨q1, q2, q3⟩, q4⟩ := h3 t ht
  refine ⟨⟨?_, ?_, ?_⟩, fun z => ?_⟩
  · rw [f.2.2.1 24 (hA 24 (by decide))]; exact q1
  · rw [f.2.2.1 25 (hA 25 (by decide))]; exact q2
  · rw [f.2.2.1 26 (hA 26 (by decide))]; exact q3
  · rw [f.2.2.1 27 (hA 27 (by decide))]; exact q4 z
theorem xPos_f {I J A B : List Nat} (f : fr I J A B σ τ) (hI : ∀ k, k ∈ [10, 12, 13, 14, 15, 16] → k ∉ I) (h : xPos σ tp p g) : xPos τ tp p g := by
  unfold xPos
  rw [f.1 10 (hI 10 (by decide)), f.1 12 (hI 12 (by decide)), f.1 13 (hI 13 (by decide)), f.1 14 (hI 14 (by decide)), f.1 15 (hI 15 (by decide)), f.1 16 (hI 16 (by decide))]
  exact h
theorem wi_w {v n : Nat} (hn : n ≤ 19) : wiF v n = 99 ∨ wiF v n < 19 := by
  rcases wi_i (v := v) n with z | z
  · exact Or.inl z
  · exact Or.inr (by omega)
theorem x_take97 {k sz v : Nat} (hN : 1100 < N) (ho : ∀ i, i < 19 → σ.2.2.1 14 i = nI (owdN i)) (h12 : σ.1 12 = nI k) (hk : k ≤ 4) (h14 : σ.1 14 = nI sz) (hsz : sz ≤ 800) (h15 : k = 1 → σ.1 15 = nI v) (hv : k = 1 → sz ≤ 6 → v < 2 ^ 30) (h16 : σ.1 16 = -1) (hQ : ∀ τ, fr [16] [] [] [] σ τ → τ.1 16 = whI (if k = 1 ∧ sz ≤ 6 then wiF v 19 else 99) → Q 1 τ) : w_X5_take_97 N Q N (0 : Int32) σ := by
  have n1 : nI k = (1 : Int32) ↔ k = 1 := nI_eq (b := 1) (by omega) (by decide)
  have n6 : (6 : Int32) < nI sz ↔ 6 < sz := nI_ltI (a := 6) (by decide) (by omega)
  by_cases c : k = 1 ∧ sz ≤ 6
  · rw [if_pos c] at hQ
    have hv := hv c.1 c.2
    refine loopU (fun f i (s : zSt) => w_X5_take_97 N Q f (nI i) s) (fun i s => fr [16] [] [] [] σ s ∧ s.1 16 = whI (wiF v i)) 19 ?_ ?_ N 0 σ (Nat.zero_le _) (by omega) ⟨fr_r, h16⟩
    · intro f s hs
      show b_X5_take_97 N (w_X5_take_97 N Q f) Q (nI 19) s
      unfold b_X5_take_97
      exact br_t (nI_le (a := 19) (Nat.le_refl _) (by decide)) (hQ s hs.1 hs.2)
    · intro f i s hi hs ih
      show b_X5_take_97 N (w_X5_take_97 N Q f) Q (nI i) s
      have e12 : s.1 12 = nI k := by rw [hs.1.1 12 (by decide)]; exact h12
      have e14 : s.1 14 = nI sz := by rw [hs.1.1 14 (by decide)]; exact h14
      have e15 : s.1 15 = nI v := by rw [hs.1.1 15 (by decide)]; exact h15 c.1
      have eo : s.2.2.1 14 i = nI (owdN i) := by rw [hs.1.2.2.1 14 (by decide)]; exact ho i hi
      have hw := (own_l i hi).2.2.1
      unfold b_X5_take_97
      rw [e12, n1, e14, n6, e15, nI_clamp (n := i) (by omega), eo, nI_1, nI_eq (by omega) (by omega)]
      refine br_f (show ¬ nI 19 ≤ nI i from nI_ge hi (by decide)) (br_t c.1 (br_f (by omega) ⟨vp_in_nI hi (by decide), ⟨fun z => nm_e (nm_e (ih _ ⟨fr_I hs.1 (by decide), zI_1s.trans ?_⟩)), fun z => nm_e (ih s ⟨hs.1, ?_⟩)⟩⟩))
      · rw [wiF, if_pos z]; unfold whI; rw [if_neg (by omega)]
      · rw [wiF, if_neg z]; exact hs.2
  · rw [if_neg c] at hQ
    have hq := hQ σ fr_r h16
    have w : ∀ f, 0 < f → w_X5_take_97 N Q f (0 : Int32) σ := fun f hf => by
      cases f with
      | zero => exact absurd hf (Nat.not_lt_zero _)
      | succ f =>
        show b_X5_take_97 N (w_X5_take_97 N Q f) Q (nI 0) σ
        unfold b_X5_take_97
        rw [h12, n1, h14, n6]
        exact br_f (show ¬ nI 19 ≤ nI 0 by decide) ⟨fun z => ⟨fun _ => hq, fun y => absurd ⟨z, by omega⟩ c⟩, fun _ => hq⟩
    exact w N (by omega)
theorem vT_lt (hk : kT tp p g = 1) (hs : eT tp (sT tp p) - sT tp p ≤ 6) : vT tp p < 2 ^ 30 := by
  have hl := (kT_1 hk).1
  rw [vT_l hl]
  exact pw_lt hs (fun k hk => by have := run_l hl k hk; omega)
theorem x_take26 {t : Nat} (hN : 1100 < N) (h : xTok σ tp) (ht : t ≤ eC tp) (e10 : σ.1 10 = nI t) (hQ : ∀ τ, fr [12, 13, 14, 15, 16] [] [] [] σ τ → xPos τ tp (itT tp t).1 (itT tp t).2 → Q 1 τ) : b_X5_take_26 N Q σ := by
  obtain ⟨h8, h1, h2, h3, _⟩ := h
  have hc := eC_le h8
  have hle := it_le (tp := tp) t
  have hst := sT_le hle
  have hen := eT_le hst
  obtain ⟨⟨q1, q2, q3⟩, q4⟩ := h2 t (by omega)
  have hv : vp_in (nI t) 801 := vp_in_nI (by omega) (by decide)
  have hv2 : ∀ τ : zSt, τ.1 10 = nI t → vp_in (τ.1 10) 801 := fun τ e => by rw [e]; exact hv
  have hcl : ∀ τ : zSt, τ.1 10 = nI t → (τ.1 10).toNatClampNeg = t := fun τ e => by rw [e]; exact nI_clamp (by omega)
  unfold b_X5_take_26
  refine ⟨hv2 _ e10, nm_e ⟨hv2 _ e10, nm_e ⟨hv2 _ e10, nm_e ⟨hv2 _ e10, nm_e (nm_e ?_)⟩⟩⟩⟩
  refine x_take97 (k := kN tp t) (sz := eT tp (sT tp (itT tp t).1) - sT tp (itT tp t).1) (v := vT tp (itT tp t).1) hN (fun i hi => h3 i hi) ?_ kT_le ?_ (by omega) (fun e => ?_) (fun e1 e2 => vT_lt e1 e2) rfl (fun τ f w => hQ τ (fr_t (fr_I (fr_I (fr_I (fr_I (fr_I fr_r (by decide)) (by decide)) (by decide)) (by decide)) (by decide)) (fr_w f (subl rfl) (subl rfl) (subl rfl) (subl rfl))) ⟨⟨t, ht, rfl, ?_⟩, ?_, ?_, ?_, fun z => ?_, w⟩)
  · show σ.2.2.1 24 (σ.1 10).toNatClampNeg = _
    rw [hcl σ e10]; exact q1
  · show σ.2.2.1 26 (σ.1 10).toNatClampNeg = _
    rw [hcl σ e10]; exact q3
  · show σ.2.2.1 27 (σ.1 10).toNatClampNeg = _
    rw [hcl σ e10]; exact q4 (by omega)
  · rw [f.1 10 (by decide)]; exact e10
  · rw [f.1 12 (by decide)]
    show σ.2.2.1 24 (σ.1 10).toNatClampNeg = _
    rw [hcl σ e10]; exact q1
  · rw [f.1 13 (by decide)]
    show σ.2.2.1 25 (σ.1 10).toNatClampNeg = _
    rw [hcl σ e10]; exact q2
  · rw [f.1 14 (by decide)]
    show σ.2.2.1 26 (σ.1 10).toNatClampNeg = _
    rw [hcl σ e10]; exact q3
  · rw [f.1 15 (by decide)]
    show σ.2.2.1 27 (σ.1 10).toNatClampNeg = _
    rw [hcl σ e10]; exact q4 z
theorem x_take (hN : 1100 < N) (h : xTok σ tp) (hp : xPos σ tp p g) (hk : ¬ kT tp p g = 0) (hQ : ∀ τ, fr [10, 12, 13, 14, 15, 16] [] [] [] σ τ → xPos τ tp (eT tp (sT tp p)) (wnB tp (sT tp p)) → Q 1 τ) : w_X5_take N σ Q := by
  obtain ⟨⟨t, t1, t2, t3⟩, _⟩ := hp
  have h8 := h.1
  have hc := eC_le h8
  have hne : t ≠ eC tp := fun e => hk (by have := eC_0 h8; rw [← e] at this; unfold kN at this; rw [t2] at this; exact this)
  unfold w_X5_take
  rw [t3, nI_1, h.2.1]
  refine br_f (nI_ge (by omega) (by omega)) (nm_e ?_)
  have f1 : fr [10, 12, 13, 14, 15, 16] [] [] [] σ (zI σ 10 (nI (t + 1))) := fr_I fr_r (by decide)
  refine x_take26 (t := t + 1) hN (xTok_f f1 (by decide) (notin rfl) h) (by omega) zI_1s (fun τ f2 p2 => hQ τ (fr_t f1 (fr_w f2 (subl rfl) (subl rfl) (subl rfl) (subl rfl))) ?_)
  have e : itT tp (t + 1) = (eT tp (sT tp (itT tp t).1), wnB tp (sT tp (itT tp t).1)) := rfl
  rw [e, t2] at p2
  exact p2
/-- signs, words -/
def isB (tp : Nat × (Nat → Nat)) (p : Nat) (g : Bool) (c : Nat) : Bool := decide (kT tp p g = 3) && decide (vT tp p = c)
theorem is_i {c : Nat} : isB tp p g c = true ↔ kT tp p g = 3 ∧ vT tp p = c := by unfold isB; rw [Bool.and_eq_true, decide_eq_true_eq, decide_eq_true_eq]
theorem vT_s (h : kT tp p g = 3) : vT tp p = chT tp (sT tp p) := by
  obtain ⟨h1, h2, h3⟩ := kT_3 h
  unfold vT; rw [if_neg (by rw [h1]; decide), if_neg (by rw [h2]; decide)]
theorem x_isSign {c : Nat} (hb : ∀ k, k < tp.1 → tp.2 k < 256) (hc : c < 256) (hp : xPos σ tp p g) (hQ : Q (b32 (isB tp p g c)) σ) : w_X5_isSign N (nI c) σ Q := by
  obtain ⟨_, p1, p2, p3, p4, p5⟩ := hp
  have hk := kT_le (tp := tp) (p := p) (g := g)
  unfold w_X5_isSign
  rw [p1]
  refine ⟨fun z => ?_, fun z => ?_⟩
  · have z : nI (kT tp p g) = nI 3 := z
    rw [nI_eq (by omega) (by omega)] at z
    have hs := vT_s z
    have hv : vT tp p < 256 := by
      have := kT_3 z
      rw [hs, ch_t this.2.2]; exact hb _ this.2.2
    rw [p4 (by omega), nI_eq (by omega) (by omega)]
    refine ⟨fun w => ?_, fun w => ?_⟩
    · rw [is_i.mpr ⟨z, w⟩] at hQ; exact hQ
    · cases e : isB tp p g c with
      | true => exact absurd (is_i.mp e).2 w
      | false => rw [e] at hQ; exact hQ
  · have z : ¬ nI (kT tp p g) = nI 3 := z
    rw [nI_eq (by omega) (by omega)] at z
    cases e : isB tp p g c with
    | true => exact absurd (is_i.mp e).1 z
    | false => rw [e] at hQ; exact hQ
theorem whI_c {w : Nat} (hw : w < 19) (hp : xPos σ tp p g) : σ.1 16 = nI w ↔ wT tp p g = w := by
  rw [hp.2.2.2.2.2]
  unfold whI
  by_cases c : wT tp p g = 99
  · rw [if_pos c]
    exact ⟨fun e => absurd e (ne_m1 (by omega)), fun e => by omega⟩
  · have := (wT_lt c).1
    rw [if_neg c, nI_eq (by omega) (by omega)]
theorem x_fail {k q : Int32} (hQ : Q 0 (zI (zI σ 8 k) 9 q)) : w_X5_fail N k q σ Q := by
  unfold w_X5_fail
  exact nm_e (nm_e hQ)
end xt
