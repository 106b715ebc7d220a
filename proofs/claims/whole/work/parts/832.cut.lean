/-! the class cuts the tape -/
def chI (tp : Nat × (Nat → Nat)) (p : Nat) : Int32 := if p < tp.1 then nI (tp.2 p) else -1
section ci
variable {tp : Nat × (Nat → Nat)} {p : Nat}
theorem chI_n (hb : ∀ k, k < tp.1 → tp.2 k < 256) : (chI tp p).toInt = if p < tp.1 then ((tp.2 p : Nat) : Int) else -1 := by
  unfold chI
  by_cases c : p < tp.1
  · have := hb p c
    rw [if_pos c, if_pos c, nI_toInt (by omega)]
  · rw [if_neg c, if_neg c]; decide
theorem chI_c (hb : ∀ k, k < tp.1 → tp.2 k < 256) {c : Nat} (hc : c < 256) : chI tp p = nI c ↔ chT tp p = c := by
  rw [fa_eq, chI_n hb, nI_toInt (by omega)]
  unfold chT
  split <;> omega
theorem chI_e (hb : ∀ k, k < tp.1 → tp.2 k < 256) : chI tp p = -1 ↔ tp.1 ≤ p := by
  rw [fa_eq, chI_n hb, show (-1 : Int32).toInt = -1 by decide]
  split <;> omega
theorem lBI (hb : ∀ k, k < tp.1 → tp.2 k < 256) : lB tp p = true ↔ 97 ≤ (chI tp p).toInt ∧ (chI tp p).toInt ≤ 122 := by
  rw [lB_i, chI_n hb]; unfold chT
  split <;> omega
theorem dBI (hb : ∀ k, k < tp.1 → tp.2 k < 256) : dB tp p = true ↔ 48 ≤ (chI tp p).toInt ∧ (chI tp p).toInt ≤ 57 := by
  rw [dB_i, chI_n hb]; unfold chT
  split <;> omega
theorem kBI (hb : ∀ k, k < tp.1 → tp.2 k < 256) : kB tp p = true ↔ chI tp p = 10 ∨ chI tp p = 32 := by
  rw [kB_i, show (10 : Int32) = nI 10 from rfl, show (32 : Int32) = nI 32 from rfl, chI_c hb (by decide), chI_c hb (by decide)]
end ci
section xc
variable {N : Nat} {σ τ : zSt} {tp : Nat × (Nat → Nat)} {p : Nat} {Q : Int32 → zSt → Prop}
theorem in_l {v : Int32} {b : Bool} (h : b = true ↔ 97 ≤ v.toInt ∧ v.toInt ≤ 122) (hQ : Q (b32 b) σ) : (v < (97 : Int32) → Q (0 : Int32) σ) ∧ (¬ v < (97 : Int32) → ((122 : Int32) < v → Q (0 : Int32) σ) ∧ (¬ (122 : Int32) < v → Q (1 : Int32) σ)) := by
  rw [fa_lt, fa_lt, show (97 : Int32).toInt = 97 by decide, show (122 : Int32).toInt = 122 by decide]
  cases b with
  | true =>
    have := h.mp rfl
    exact ⟨fun z => absurd z (by omega), fun _ => ⟨fun z => absurd z (by omega), fun _ => hQ⟩⟩
  | false => exact ⟨fun _ => hQ, fun z => ⟨fun _ => hQ, fun w => absurd (h.mpr ⟨by omega, by omega⟩) (by decide)⟩⟩
theorem in_d {v : Int32} {b : Bool} (h : b = true ↔ 48 ≤ v.toInt ∧ v.toInt ≤ 57) (hQ : Q (b32 b) σ) : (v < (48 : Int32) → Q (0 : Int32) σ) ∧ (¬ v < (48 : Int32) → ((57 : Int32) < v → Q (0 : Int32) σ) ∧ (¬ (57 : Int32) < v → Q (1 : Int32) σ)) := by
  rw [fa_lt, fa_lt, show (48 : Int32).toInt = 48 by decide, show (57 : Int32).toInt = 57 by decide]
  cases b with
  | true =>
    have := h.mp rfl
    exact ⟨fun z => absurd z (by omega), fun _ => ⟨fun z => absurd z (by omega), fun _ => hQ⟩⟩
  | false => exact ⟨fun _ => hQ, fun z => ⟨fun _ => hQ, fun w => absurd (h.mpr ⟨by omega, by omega⟩) (by decide)⟩⟩
theorem xTp_b (h : xTp σ tp) : ∀ k, k < tp.1 → tp.2 k < 256 := fun k hk => (h.2.2 k hk).1
theorem x_at (h : xTp σ tp) (hp : p < 2 ^ 31) (hQ : Q (chI tp p) σ) : w_X7_at N (nI p) σ Q := by
  obtain ⟨h1, h2, h3⟩ := h
  unfold w_X7_at
  rw [h2, nI_clamp (n := p) hp]
  refine ⟨fun z => absurd z (nI_pos hp), fun _ => ⟨fun z => ?_, fun z => ?_⟩⟩
  · rw [nI_leI (by omega) hp] at z
    unfold chI at hQ
    rw [if_neg (by omega)] at hQ
    exact hQ
  · rw [nI_leI (by omega) hp] at z
    unfold chI at hQ
    rw [if_pos (by omega)] at hQ
    refine ⟨fun w => ?_, fun w => ⟨vp_in_nI (by omega) (by decide), ?_⟩⟩
    · have w : nI 800 ≤ nI p := w
      rw [nI_leI (by omega) hp] at w
      omega
    · rw [(h3 p (by omega)).2]; exact hQ
theorem x_blank (hb : ∀ k, k < tp.1 → tp.2 k < 256) (hQ : Q (b32 (kB tp p)) σ) : w_X8_isBlank N (chI tp p) σ Q := by
  unfold w_X8_isBlank
  have hk := kBI (p := p) hb
  cases e : kB tp p with
  | true =>
    rw [e] at hQ
    refine ⟨fun _ => hQ, fun z => ⟨fun _ => hQ, fun w => ?_⟩⟩
    rcases hk.mp e with y | y
    · exact absurd y z
    · exact absurd y w
  | false =>
    rw [e] at hQ
    refine ⟨fun z => ?_, fun _ => ⟨fun z => ?_, fun _ => hQ⟩⟩
    · rw [hk.mpr (Or.inl z)] at e; exact absurd e (by decide)
    · rw [hk.mpr (Or.inr z)] at e; exact absurd e (by decide)
theorem x_letter (hb : ∀ k, k < tp.1 → tp.2 k < 256) (hQ : Q (b32 (lB tp p)) σ) : w_X8_isLetter N (chI tp p) σ Q := in_l (lBI hb) hQ
theorem x_digit (hb : ∀ k, k < tp.1 → tp.2 k < 256) (hQ : Q (b32 (dB tp p)) σ) : w_X8_isDigit N (chI tp p) σ Q := in_d (dBI hb) hQ
theorem xTp_f {I J A B : List Nat} (f : fr I J A B σ τ) (hI : 0 ∉ I) (hA : 2 ∉ A) (h : xTp σ tp) : xTp τ tp := by
  unfold xTp; rw [f.1 0 hI, f.2.2.1 2 hA]; exact h
theorem x_skip {Q : zSt → Prop} (hN : 1100 < N) (h : xTp σ tp) (hp : p ≤ tp.1) (he : σ.1 24 = nI p) (hQ : ∀ τ, fr [24] [] [] [] σ τ → τ.1 24 = nI (sT tp p) → Q τ) : w_X8_skipBlanks N σ Q := by
  have h8 := h.1
  have hb := xTp_b h
  have hs := sT_le hp
  have hg := sT_ge tp p
  refine loopU (fun f i (s : zSt) => w_X8_skipBlanks_2 N Q f (nI i) s) (fun i s => fr [24] [] [] [] σ s ∧ s.1 24 = nI (p + i)) (sT tp p - p) ?_ ?_ N 0 σ (Nat.zero_le _) (by omega) ⟨fr_r, he⟩
  · intro f s hs
    show b_X8_skipBlanks_2 N (w_X8_skipBlanks_2 N Q f) Q (nI (sT tp p - p)) s
    have e : s.1 24 = nI (sT tp p) := by rw [hs.2, show p + (sT tp p - p) = sT tp p by omega]
    unfold b_X8_skipBlanks_2
    refine ⟨fun _ => hQ s hs.1 e, fun _ => ?_⟩
    rw [e]
    refine x_at (xTp_f hs.1 (by decide) (by decide) h) (by omega) (x_blank hb ?_)
    rw [sT_k h8]
    exact ⟨fun _ => hQ s hs.1 e, fun z => absurd rfl z⟩
  · intro f i s hi hs ih
    show b_X8_skipBlanks_2 N (w_X8_skipBlanks_2 N Q f) Q (nI i) s
    have hk : kB tp (p + i) = true := enF_in (P := kB tp) (p := p) (by omega) (by show p + i < sT tp p; omega)
    unfold b_X8_skipBlanks_2
    rw [hs.2]
    refine br_f (show ¬ nI 800 ≤ nI i from nI_ge (by omega) (by omega)) ?_
    refine x_at (xTp_f hs.1 (by decide) (by decide) h) (by omega) (x_blank hb ?_)
    rw [hk]
    refine br_f (by decide) (nm_e (nm_e ?_))
    rw [nI_1]
    refine ih _ ⟨fr_I hs.1 (by decide), zI_1s.trans ?_⟩
    rw [hs.2, nI_1]; rfl
/-- one letter more -/
theorem pkW_s {f : Nat → Nat} {i : Nat} (hi : i < 6) (hf : ∀ k, k ≤ i → 97 ≤ f k ∧ f k ≤ 122) : nI (pkW f i) ||| ((((nI (f i)) - (97 : Int32)) + (1 : Int32)) <<< (((5 : Int32) * ((5 : Int32) - nI i)) &&& 31)) = nI (pkW f (i + 1)) := by
  have hfi := hf i (Nat.le_refl _)
  have hl : f i - 96 < 32 := by omega
  have e5 : 2 ^ (5 * (6 - i)) = 32 * 2 ^ (5 * (5 - i)) := by
    rw [show 5 * (6 - i) = 5 + 5 * (5 - i) by omega, Nat.pow_add]
  have hb : (f i - 96) * 2 ^ (5 * (5 - i)) < 2 ^ (5 * (6 - i)) := by
    rw [e5]; exact Nat.mul_lt_mul_of_pos_right hl (Nat.two_pow_pos _)
  have h30 : 2 ^ (5 * (6 - i)) ≤ 2 ^ 30 := Nat.pow_le_pow_right (by decide) (by omega)
  rw [show (97 : Int32) = nI 97 from rfl, pk_sub (by omega), nI_1, show f i - 97 + 1 = f i - 96 by omega, pk_shlN _ (5 * (5 - i)) (shl5 i hi) (by omega)]
  have e1 : pkW f i = 2 ^ (5 * (6 - i)) * hoR f i := by rw [pkW_n (by omega), Nat.mul_comm]
  rw [e1, fa_or_sum _ hb]
  congr 1
  rw [pkW_n (by omega), hoR, show 6 - (i + 1) = 5 - i by omega, e5, Nat.add_mul, Nat.mul_comm (32 * 2 ^ (5 * (5 - i))), ← Nat.mul_assoc, Nat.mul_comm (hoR f i) 32]
theorem pkW_0 {f : Nat → Nat} : pkW f 0 = 0 := by rw [pkW_n (by decide), hoR, Nat.zero_mul]
theorem x_word (hN : 1100 < N) {s : Nat} (h : xTp σ tp) (hl : lB tp s = true) (he : σ.1 24 = nI s) (hQ : ∀ τ, fr [24] [] [] [] σ τ → τ.1 24 = nI (eT tp s) → Q (nI (pkW (fun k => tp.2 (s + k)) (eT tp s - s))) τ) : w_X8_word N σ Q := by
  have h8 := h.1
  have hb := xTp_b h
  have hs := lB_lt hl
  have hE := eT_le (tp := tp) (s := s) (by omega)
  have hr := run_l hl
  have hg := eT_gt h8 hs
  have heE : eT tp s = enF (lB tp) s := eT_l hl
  suffices w : w_X8_word_4 N Q N (nI (pkW (fun k => tp.2 (s + k)) 0)) (nI 0) σ by
    rw [pkW_0] at w; exact w
  refine loopU (fun f i (u : zSt) => w_X8_word_4 N Q f (nI (pkW (fun k => tp.2 (s + k)) i)) (nI i) u) (fun i u => fr [24] [] [] [] σ u ∧ u.1 24 = nI (s + i)) (eT tp s - s) ?_ ?_ N 0 σ (Nat.zero_le _) (by omega) ⟨fr_r, he⟩
  · intro f u hu
    show b_X8_word_4 N (w_X8_word_4 N Q f) Q (nI (pkW (fun k => tp.2 (s + k)) (eT tp s - s))) (nI (eT tp s - s)) u
    have e : u.1 24 = nI (eT tp s) := by rw [hu.2, show s + (eT tp s - s) = eT tp s by omega]
    unfold b_X8_word_4
    refine ⟨fun _ => hQ u hu.1 e, fun _ => ?_⟩
    rw [e]
    refine x_at (xTp_f hu.1 (by decide) (by decide) h) (by omega) (x_letter hb ?_)
    have hn : lB tp (eT tp s) = false := by rw [heE]; exact enF_o (lP h8) s
    rw [hn]
    exact ⟨fun _ => hQ u hu.1 e, fun z => absurd rfl z⟩
  · intro f i u hi hu ih
    show b_X8_word_4 N (w_X8_word_4 N Q f) Q (nI (pkW (fun k => tp.2 (s + k)) i)) (nI i) u
    have hk : lB tp (s + i) = true := enF_in (P := lB tp) (p := s) (by omega) (by omega)
    have hT := xTp_f hu.1 (by decide) (by decide) h
    have go : ∀ v, v = nI (pkW (fun k => tp.2 (s + k)) (i + 1)) → b_X8_word_59 N (w_X8_word_4 N Q f) Q v (nI i) u := fun v hv => by
      unfold b_X8_word_59
      rw [hv, nI_1]
      refine nm_e (nm_e (ih _ ⟨fr_I hu.1 (by decide), zI_1s.trans ?_⟩))
      rw [hu.2, nI_1]; rfl
    unfold b_X8_word_4
    rw [hu.2]
    refine br_f (show ¬ nI 800 ≤ nI i from nI_ge (by omega) (by omega)) ?_
    refine x_at hT (by omega) (x_letter hb ?_)
    rw [hk]
    refine br_f (by decide) ⟨fun z => go _ ?_, fun z => ?_⟩
    · have z : nI 6 ≤ nI i := z
      rw [nI_leI (by omega) (by omega)] at z
      unfold pkW
      rw [show min (i + 1) 6 = 6 by omega, show min i 6 = 6 by omega]
    · have z : ¬ nI 6 ≤ nI i := z
      rw [nI_leI (by omega) (by omega)] at z
      rw [hu.2]
      refine x_at hT (by omega) (nm_e (go _ ?_))
      rw [show chI tp (s + i) = nI (tp.2 (s + i)) from if_pos (by omega)]
      exact pkW_s (f := fun k => tp.2 (s + k)) (by omega) (fun k hk => hr k (by omega))
theorem eT_d (h : dB tp p = true) : eT tp p = enF (dB tp) p := by
  have : lB tp p = false := by
    cases e : lB tp p with
    | false => rfl
    | true => rw [lB_d e] at h; exact absurd h (by decide)
  unfold eT; rw [if_neg (by rw [this]; decide), if_pos h]
theorem run_d (h : dB tp p = true) : ∀ k, k < eT tp p - p → 48 ≤ tp.2 (p + k) ∧ tp.2 (p + k) ≤ 57 := fun k hk => by
  rw [eT_d h] at hk
  have h1 : dB tp (p + k) = true := enF_in (p := p) (by omega) (by omega)
  have h2 := dB_i.mp h1
  rw [ch_t (dB_lt h1)] at h2
  exact h2
theorem nuR_lt {f : Nat → Nat} {n : Nat} (h : ∀ k, k < n → 48 ≤ f k ∧ f k ≤ 57) : ∀ m, m ≤ n → nuR f m < 10 ^ m
  | 0, _ => by show 0 < 1; decide
  | m + 1, hm => by
    have h1 := nuR_lt h m (by omega)
    have h2 := h m (by omega)
    rw [nuR, Nat.pow_succ]
    omega
theorem x_numb (hN : 1100 < N) {s : Nat} (h : xTp σ tp) (hl : dB tp s = true) (he : σ.1 24 = nI s) (hQ : ∀ τ, fr [24] [] [] [] σ τ → τ.1 24 = nI (eT tp s) → Q (nI (nuR (fun k => tp.2 (s + k)) (min (eT tp s - s) 4))) τ) : w_X8_number N σ Q := by
  have h8 := h.1
  have hb := xTp_b h
  have hs := dB_lt hl
  have hE := eT_le (tp := tp) (s := s) (by omega)
  have hr := run_d hl
  have hg := eT_gt h8 hs
  have heE : eT tp s = enF (dB tp) s := eT_d hl
  refine loopU (fun f i (u : zSt) => w_X8_number_4 N Q f (nI (nuR (fun k => tp.2 (s + k)) (min i 4))) (nI i) u) (fun i u => fr [24] [] [] [] σ u ∧ u.1 24 = nI (s + i)) (eT tp s - s) ?_ ?_ N 0 σ (Nat.zero_le _) (by omega) ⟨fr_r, he⟩
  · intro f u hu
    show b_X8_number_4 N (w_X8_number_4 N Q f) Q (nI (nuR (fun k => tp.2 (s + k)) (min (eT tp s - s) 4))) (nI (eT tp s - s)) u
    have e : u.1 24 = nI (eT tp s) := by rw [hu.2, show s + (eT tp s - s) = eT tp s by omega]
    unfold b_X8_number_4
    refine ⟨fun _ => hQ u hu.1 e, fun _ => ?_⟩
    rw [e]
    refine x_at (xTp_f hu.1 (by decide) (by decide) h) (by omega) (x_digit hb ?_)
    have hn : dB tp (eT tp s) = false := by rw [heE]; exact enF_o (dP h8) s
    rw [hn]
    exact ⟨fun _ => hQ u hu.1 e, fun z => absurd rfl z⟩
  · intro f i u hi hu ih
    show b_X8_number_4 N (w_X8_number_4 N Q f) Q (nI (nuR (fun k => tp.2 (s + k)) (min i 4))) (nI i) u
    have hk : dB tp (s + i) = true := enF_in (P := dB tp) (p := s) (by omega) (by omega)
    have hT := xTp_f hu.1 (by decide) (by decide) h
    have go : ∀ v, v = nI (nuR (fun k => tp.2 (s + k)) (min (i + 1) 4)) → b_X8_number_53 N (w_X8_number_4 N Q f) Q v (nI i) u := fun v hv => by
      unfold b_X8_number_53
      rw [hv, nI_1]
      refine nm_e (nm_e (ih _ ⟨fr_I hu.1 (by decide), zI_1s.trans ?_⟩))
      rw [hu.2, nI_1]; rfl
    unfold b_X8_number_4
    rw [hu.2]
    refine br_f (show ¬ nI 800 ≤ nI i from nI_ge (by omega) (by omega)) ?_
    refine x_at hT (by omega) (x_digit hb ?_)
    rw [hk]
    refine br_f (by decide) ⟨fun z => go _ ?_, fun z => ?_⟩
    · have z : nI 4 ≤ nI i := z
      rw [nI_leI (by omega) (by omega)] at z
      rw [show min (i + 1) 4 = 4 by omega, show min i 4 = 4 by omega]
    · have z : ¬ nI 4 ≤ nI i := z
      rw [nI_leI (by omega) (by omega)] at z
      rw [hu.2]
      refine x_at hT (by omega) (nm_e (go _ ?_))
      have hri := hr i hi
      rw [show chI tp (s + i) = nI (tp.2 (s + i)) from if_pos (by omega), show min (i + 1) 4 = i + 1 by omega, show min i 4 = i by omega, show (10 : Int32) = nI 10 from rfl, show (48 : Int32) = nI 48 from rfl, pk_mul, nI_add, pk_sub (by omega), nuR]
      congr 1
      show nuR (fun k => tp.2 (s + k)) i * 10 + tp.2 (s + i) - 48 = 10 * nuR (fun k => tp.2 (s + k)) i + (tp.2 (s + i) - 48)
      omega
end xc
