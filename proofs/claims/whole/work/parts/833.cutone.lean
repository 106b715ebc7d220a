/-! the class cuts one word, number or sign; all of them -/
def kU (tp : Nat × (Nat → Nat)) (s : Nat) : Nat := if lB tp s = true then 1 else if dB tp s = true then 2 else if s < tp.1 then 3 else 0
def vU (tp : Nat × (Nat → Nat)) (s : Nat) : Nat :=
  if lB tp s = true then pkW (fun k => tp.2 (s + k)) (eT tp s - s) else if dB tp s = true then nuR (fun k => tp.2 (s + k)) (min (eT tp s - s) 4) else chT tp s
/-- one token stands at a place of the rows -/
def tkA (τ : zSt) (t k s e : Nat) : Prop := τ.2.2.1 24 t = nI k ∧ τ.2.2.1 25 t = nI s ∧ τ.2.2.1 26 t = nI (e - s)
def tkO (σ τ : zSt) (t : Nat) : Prop := ∀ j, j ≠ t → τ.2.2.1 24 j = σ.2.2.1 24 j ∧ τ.2.2.1 25 j = σ.2.2.1 25 j ∧ τ.2.2.1 26 j = σ.2.2.1 26 j ∧ τ.2.2.1 27 j = σ.2.2.1 27 j
section co
variable {N : Nat} {σ τ : zSt} {tp : Nat × (Nat → Nat)} {t s : Nat} {Q : Int32 → zSt → Prop}
theorem x_171 {k e : Nat} (ht : t < 801) (e23 : σ.1 23 = nI t) (e24 : σ.1 24 = nI e) (hs : s ≤ e) (h4 : σ.2.2.1 24 t = nI k) (h5 : σ.2.2.1 25 t = nI s) (hQ : ∀ τ, fr [] [] [26] [] σ τ → tkO σ τ t → tkA τ t k s e → Q (nI k) τ) : b_X8_cutOne_171 N Q σ := by
  have hv : vp_in (nI t) 801 := vp_in_nI ht (by decide)
  unfold b_X8_cutOne_171
  rw [e23, e24, nI_clamp (n := t) (by omega), h5, pk_sub hs]
  refine ⟨hv, hv, nm_e ⟨?_, ?_⟩⟩
  · rw [show (zA σ 26 (upd (σ.2.2.1 26) t (nI (e - s)))).1 23 = nI t from e23]; exact hv
  · rw [show (zA σ 26 (upd (σ.2.2.1 26) t (nI (e - s)))).1 23 = nI t from e23, nI_clamp (n := t) (by omega), show (zA σ 26 (upd (σ.2.2.1 26) t (nI (e - s)))).2.2.1 24 t = nI k from h4]
    exact hQ _ (fr_A fr_r (by decide)) (fun j hj => ⟨rfl, rfl, pk_un hj, rfl⟩) ⟨h4, h5, pk_us⟩
theorem x_79 {k : Nat} {x1 : Int32} (hN : 1100 < N) (h : xTp σ tp) (ht : t < 801) (e23 : σ.1 23 = nI t) (e24 : σ.1 24 = nI s) (hs : s ≤ tp.1) (h5 : σ.2.2.1 25 t = nI s) (hk : k = kU tp s) (hx : x1 = chI tp s) (hQ : ∀ τ, fr [24] [] [24, 26, 27] [] σ τ → tkO σ τ t → tkA τ t k s (eT tp s) → τ.1 24 = nI (eT tp s) → (s < tp.1 → τ.2.2.1 27 t = nI (vU tp s)) → Q (nI k) τ) : b_X8_cutOne_79 N Q x1 (nI k) (nI t) σ := by
  have h8 := h.1
  have hv : vp_in (nI t) 801 := vp_in_nI ht (by decide)
  have hE := eT_le (tp := tp) hs
  have hge : s ≤ eT tp s := by
    unfold eT
    split
    · exact enF_ge _
    · split
      · exact enF_ge _
      · split <;> omega
  have hk4 : k ≤ 3 := by
    rw [hk]; unfold kU
    split
    · omega
    · split
      · omega
      · split <;> omega
  have f2 : fr [24] [] [24, 26, 27] [] σ (zA (zA σ 24 (upd (σ.2.2.1 24) t (nI k))) 27 (upd ((zA σ 24 (upd (σ.2.2.1 24) t (nI k))).2.2.1 27) t x1)) := fr_A (fr_A fr_r (by decide)) (by decide)
  have o2 : tkO σ (zA (zA σ 24 (upd (σ.2.2.1 24) t (nI k))) 27 (upd ((zA σ 24 (upd (σ.2.2.1 24) t (nI k))).2.2.1 27) t x1)) t := fun j hj => ⟨pk_un hj, rfl, rfl, pk_un hj⟩
  have g24 : (zA (zA σ 24 (upd (σ.2.2.1 24) t (nI k))) 27 (upd ((zA σ 24 (upd (σ.2.2.1 24) t (nI k))).2.2.1 27) t x1)).2.2.1 24 t = nI k := pk_us
  have g27 : (zA (zA σ 24 (upd (σ.2.2.1 24) t (nI k))) 27 (upd ((zA σ 24 (upd (σ.2.2.1 24) t (nI k))).2.2.1 27) t x1)).2.2.1 27 t = x1 := pk_us
  have g25 : (zA (zA σ 24 (upd (σ.2.2.1 24) t (nI k))) 27 (upd ((zA σ 24 (upd (σ.2.2.1 24) t (nI k))).2.2.1 27) t x1)).2.2.1 25 t = nI s := h5
  have g1 : (zA (zA σ 24 (upd (σ.2.2.1 24) t (nI k))) 27 (upd ((zA σ 24 (upd (σ.2.2.1 24) t (nI k))).2.2.1 27) t x1)).1 23 = nI t := e23
  have g2 : (zA (zA σ 24 (upd (σ.2.2.1 24) t (nI k))) 27 (upd ((zA σ 24 (upd (σ.2.2.1 24) t (nI k))).2.2.1 27) t x1)).1 24 = nI s := e24
  unfold b_X8_cutOne_79
  rw [nI_clamp (n := t) (by omega)]
  refine ⟨hv, nm_e ?_⟩
  rw [show (zA σ 24 (upd (σ.2.2.1 24) t (nI k))).1 23 = nI t from e23, nI_clamp (n := t) (by omega)]
  refine ⟨hv, nm_e ?_⟩
  generalize (zA (zA σ 24 (upd (σ.2.2.1 24) t (nI k))) 27 (upd ((zA σ 24 (upd (σ.2.2.1 24) t (nI k))).2.2.1 27) t x1)) = υ at f2 o2 g24 g27 g25 g1 g2 ⊢
  have hT : xTp υ tp := xTp_f f2 (by decide) (by decide) h
  rw [g1, nI_clamp (n := t) (by omega), g24]
  refine ⟨hv, ⟨fun z => ?_, fun z => ⟨hv, ⟨fun y => ?_, fun y => ⟨hv, ⟨fun w => ?_, fun w => ?_⟩⟩⟩⟩⟩⟩
  · -- a word
    have z : nI k = nI 1 := z
    rw [nI_eq (by omega) (by omega)] at z
    have hl : lB tp s = true := by
      rw [z] at hk; unfold kU at hk
      split at hk
      · assumption
      · split at hk
        · omega
        · split at hk <;> omega
    refine x_word hN hT hl g2 (fun τ f3 e3 => ⟨hv, nm_e ?_⟩)
    have f4 : fr [24] [] [24, 26, 27] [] υ (zA τ 27 (upd (τ.2.2.1 27) t (nI (pkW (fun k => tp.2 (s + k)) (eT tp s - s))))) := fr_A (fr_w f3 (subl rfl) (subl rfl) (subl rfl) (subl rfl)) (by decide)
    refine x_171 (s := s) ht (show τ.1 23 = nI t by rw [f3.1 23 (by decide)]; exact g1) (show τ.1 24 = _ from e3) hge (show τ.2.2.1 24 t = nI k by rw [f3.2.2.1 24 (by decide)]; exact g24) (show τ.2.2.1 25 t = nI s by rw [f3.2.2.1 25 (by decide)]; exact g25) (fun τ5 f5 o5 a5 => hQ τ5 (fr_t f2 (fr_t f4 (fr_w f5 (subl rfl) (subl rfl) (subl rfl) (subl rfl)))) (fun j hj => ?_) a5 ?_ (fun _ => ?_))
    · obtain ⟨b1, b2, b3, b4⟩ := o5 j hj
      obtain ⟨c1, c2, c3, c4⟩ := o2 j hj
      refine ⟨b1.trans (?_ : τ.2.2.1 24 j = _), b2.trans (?_ : τ.2.2.1 25 j = _), b3.trans (?_ : τ.2.2.1 26 j = _), b4.trans ((pk_un hj).trans (?_ : τ.2.2.1 27 j = _))⟩
      · rw [f3.2.2.1 24 (by decide)]; exact c1
      · rw [f3.2.2.1 25 (by decide)]; exact c2
      · rw [f3.2.2.1 26 (by decide)]; exact c3
      · rw [f3.2.2.1 27 (by decide)]; exact c4
    · rw [f5.1 24 (by decide)]; exact e3
    · rw [f5.2.2.1 27 (by decide)]
      show upd (τ.2.2.1 27) t (nI (pkW (fun k => tp.2 (s + k)) (eT tp s - s))) t = nI (vU tp s)
      rw [pk_us]; unfold vU; rw [if_pos hl]
  · -- a number
    have y : nI k = nI 2 := y
    rw [nI_eq (by omega) (by omega)] at y
    have hl : lB tp s = false ∧ dB tp s = true := by
      rw [y] at hk; unfold kU at hk
      split at hk
      · omega
      · rename_i hl
        split at hk
        · exact ⟨by simpa using hl, by assumption⟩
        · split at hk <;> omega
    refine x_numb hN hT hl.2 g2 (fun τ f3 e3 => ⟨hv, nm_e ?_⟩)
    have f4 : fr [24] [] [24, 26, 27] [] υ (zA τ 27 (upd (τ.2.2.1 27) t (nI (nuR (fun k => tp.2 (s + k)) (min (eT tp s - s) 4))))) := fr_A (fr_w f3 (subl rfl) (subl rfl) (subl rfl) (subl rfl)) (by decide)
    refine x_171 (s := s) ht (show τ.1 23 = nI t by rw [f3.1 23 (by decide)]; exact g1) (show τ.1 24 = _ from e3) hge (show τ.2.2.1 24 t = nI k by rw [f3.2.2.1 24 (by decide)]; exact g24) (show τ.2.2.1 25 t = nI s by rw [f3.2.2.1 25 (by decide)]; exact g25) (fun τ5 f5 o5 a5 => hQ τ5 (fr_t f2 (fr_t f4 (fr_w f5 (subl rfl) (subl rfl) (subl rfl) (subl rfl)))) (fun j hj => ?_) a5 ?_ (fun _ => ?_))
    · obtain ⟨b1, b2, b3, b4⟩ := o5 j hj
      obtain ⟨c1, c2, c3, c4⟩ := o2 j hj
      refine ⟨b1.trans (?_ : τ.2.2.1 24 j = _), b2.trans (?_ : τ.2.2.1 25 j = _), b3.trans (?_ : τ.2.2.1 26 j = _), b4.trans ((pk_un hj).trans (?_ : τ.2.2.1 27 j = _))⟩
      · rw [f3.2.2.1 24 (by decide)]; exact c1
      · rw [f3.2.2.1 25 (by decide)]; exact c2
      · rw [f3.2.2.1 26 (by decide)]; exact c3
      · rw [f3.2.2.1 27 (by decide)]; exact c4
    · rw [f5.1 24 (by decide)]; exact e3
    · rw [f5.2.2.1 27 (by decide)]
      show upd (τ.2.2.1 27) t (nI (nuR (fun k => tp.2 (s + k)) (min (eT tp s - s) 4))) t = nI (vU tp s)
      rw [pk_us]; unfold vU; rw [if_neg (by rw [hl.1]; decide), if_pos hl.2]
  · -- a sign
    have w : nI k = nI 3 := w
    rw [nI_eq (by omega) (by omega)] at w
    have hl : lB tp s = false ∧ dB tp s = false ∧ s < tp.1 := by
      rw [w] at hk; unfold kU at hk
      split at hk
      · omega
      · rename_i hl
        split at hk
        · omega
        · rename_i hd
          split at hk
          · exact ⟨by simpa using hl, by simpa using hd, by assumption⟩
          · omega
    have he : eT tp s = s + 1 := by unfold eT; rw [if_neg (by rw [hl.1]; decide), if_neg (by rw [hl.2.1]; decide), if_pos hl.2.2]
    refine nm_e ?_
    rw [g2, nI_1, ← he]
    refine x_171 (s := s) ht (show υ.1 23 = nI t from g1) zI_1s hge (show υ.2.2.1 24 t = nI k from g24) (show υ.2.2.1 25 t = nI s from g25) (fun τ5 f5 o5 a5 => hQ τ5 (fr_t f2 (fr_t (fr_I fr_r (by decide)) (fr_w f5 (subl rfl) (subl rfl) (subl rfl) (subl rfl)))) (fun j hj => ?_) a5 ?_ (fun _ => ?_))
    · obtain ⟨b1, b2, b3, b4⟩ := o5 j hj
      obtain ⟨c1, c2, c3, c4⟩ := o2 j hj
      exact ⟨b1.trans c1, b2.trans c2, b3.trans c3, b4.trans c4⟩
    · rw [f5.1 24 (by decide)]; exact zI_1s
    · rw [f5.2.2.1 27 (by decide)]
      show υ.2.2.1 27 t = nI (vU tp s)
      rw [g27, hx]
      unfold chI vU chT
      rw [if_pos hl.2.2, if_neg (by rw [hl.1]; decide), if_neg (by rw [hl.2.1]; decide), if_pos hl.2.2]
  · -- the end
    have z : ¬ nI k = nI 1 := z
    have y : ¬ nI k = nI 2 := y
    have w : ¬ nI k = nI 3 := w
    rw [nI_eq (by omega) (by omega)] at z y w
    have hl : ¬ s < tp.1 ∧ lB tp s = false ∧ dB tp s = false := by
      unfold kU at hk
      split at hk
      · omega
      · rename_i hl
        split at hk
        · omega
        · rename_i hd
          split at hk
          · omega
          · exact ⟨by assumption, by simpa using hl, by simpa using hd⟩
    have he : eT tp s = s := by unfold eT; rw [if_neg (by rw [hl.2.1]; decide), if_neg (by rw [hl.2.2]; decide), if_neg hl.1]
    refine x_171 (s := s) (e := eT tp s) ht g1 (by rw [g2, he]) hge g24 g25 (fun τ5 f5 o5 a5 => hQ τ5 (fr_t f2 (fr_w f5 (subl rfl) (subl rfl) (subl rfl) (subl rfl))) (fun j hj => ?_) a5 ?_ (fun y => absurd y hl.1))
    · obtain ⟨b1, b2, b3, b4⟩ := o5 j hj
      obtain ⟨c1, c2, c3, c4⟩ := o2 j hj
      exact ⟨b1.trans c1, b2.trans c2, b3.trans c3, b4.trans c4⟩
    · rw [f5.1 24 (by decide), g2, he]
theorem x_cutOne (hN : 1100 < N) (h : xTp σ tp) (ht : t < 801) (e23 : σ.1 23 = nI t) (e24 : σ.1 24 = nI s) (hs : s ≤ tp.1) (hQ : ∀ τ, fr [24] [] [24, 25, 26, 27] [] σ τ → tkO σ τ t → tkA τ t (kU tp s) s (eT tp s) → τ.1 24 = nI (eT tp s) → (s < tp.1 → τ.2.2.1 27 t = nI (vU tp s)) → Q (nI (kU tp s)) τ) : w_X8_cutOne N σ Q := by
  have h8 := h.1
  have hb := xTp_b h
  have hv : vp_in (nI t) 801 := vp_in_nI ht (by decide)
  unfold w_X8_cutOne
  rw [e23, e24]
  refine br_t (show nI t < nI 801 from nI_lt ht (by decide)) (x_at h (by omega) ?_)
  rw [e23, e24, nI_clamp (n := t) (by omega)]
  refine ⟨hv, nm_e ?_⟩
  have f1 : fr [24] [] [24, 25, 26, 27] [] σ (zA σ 25 (upd (σ.2.2.1 25) t (nI s))) := fr_A fr_r (by decide)
  have o1 : tkO σ (zA σ 25 (upd (σ.2.2.1 25) t (nI s))) t := fun j hj => ⟨rfl, pk_un hj, rfl, rfl⟩
  have g5 : (zA σ 25 (upd (σ.2.2.1 25) t (nI s))).2.2.1 25 t = nI s := pk_us
  have g1 : (zA σ 25 (upd (σ.2.2.1 25) t (nI s))).1 23 = nI t := e23
  have g2 : (zA σ 25 (upd (σ.2.2.1 25) t (nI s))).1 24 = nI s := e24
  generalize zA σ 25 (upd (σ.2.2.1 25) t (nI s)) = υ at f1 o1 g5 g1 g2 ⊢
  have hT : xTp υ tp := xTp_f f1 (by decide) (by decide) h
  rw [g1]
  have go : ∀ k, k = kU tp s → b_X8_cutOne_79 N Q (chI tp s) (nI k) (nI t) υ := fun k hk => by
    refine x_79 hN hT ht g1 g2 hs g5 hk rfl (fun τ f3 o3 a3 p3 v3 => ?_)
    rw [hk] at a3 ⊢
    refine hQ τ (fr_t f1 (fr_w f3 (subl rfl) (subl rfl) (subl rfl) (subl rfl))) (fun j hj => ?_) a3 p3 v3
    obtain ⟨b1, b2, b3, b4⟩ := o3 j hj
    obtain ⟨c1, c2, c3, c4⟩ := o1 j hj
    exact ⟨b1.trans c1, b2.trans c2, b3.trans c3, b4.trans c4⟩
  refine ⟨fun z => go 0 ?_, fun z => x_letter hb ⟨fun y => x_digit hb ⟨fun w => go 3 ?_, fun w => go 2 ?_⟩, fun y => go 1 ?_⟩⟩
  · rw [chI_e hb] at z
    have h1 : lB tp s = false := by
      cases e : lB tp s with
      | false => rfl
      | true => have := lB_lt e; omega
    have h2 : dB tp s = false := by
      cases e : dB tp s with
      | false => rfl
      | true => have := dB_lt e; omega
    unfold kU; rw [if_neg (by rw [h1]; decide), if_neg (by rw [h2]; decide), if_neg (by omega)]
  · rw [chI_e hb] at z
    have y := b32_0.mp y
    have w := b32_0.mp w
    unfold kU; rw [if_neg (by rw [y]; decide), if_neg (by rw [w]; decide), if_pos (by omega)]
  · have y := b32_0.mp y
    have w := b32_n.mp w
    unfold kU; rw [if_neg (by rw [y]; decide), if_pos w]
  · have y := b32_n.mp y
    unfold kU; rw [if_pos y]
end co
