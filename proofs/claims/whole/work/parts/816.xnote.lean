/-! the class notes a net at rest: behind all others -/
section xn
variable {N : Nat} {σ τ μ ν : zSt} {tp : Nat × (Nat → Nat)} {fa : Int32 × Int32} {l : zL} {net : Nat} {x : Int32} {ba rg : Nat → Int64} {ls : Nat × (Nat → Int64)} {cm : Nat × (Nat → Int64) × (Nat → Int32)} {li : Int64} {oc : Nat → Int32}
theorem X_ls {ls' : Nat × (Nat → Int64)} (h : fr [34] [] [32] [11] σ τ) (hX : XR σ tp fa l net x ba rg ls cm li oc) (hc : ls'.1 ≤ 1024 ∧ τ.1 34 = nI ls'.1 ∧ ∀ k, k < ls'.1 → τ.2.2.2 11 k = ls'.2 k) : XR τ tp fa l net x ba rg (ls') cm li oc := by
  obtain ⟨a1, a2, a3, a4, a5, a6, a7, a8, a9, a10, a11, a12⟩ := hX
  refine ⟨?_, ?_, xG_fr h (notin rfl) (notin rfl) (notin rfl) (notin rfl) a3, ?_, ?_, ?_, ?_, ?_, hc, ?_, ?_, ?_⟩
  · unfold xTp; rw [h.1 0 (by decide), h.2.2.1 2 (by decide)]; exact a1
  · rw [h.1 8 (by decide), h.1 9 (by decide), h.2.2.1 14 (by decide)]; exact a2
  · exact fun s hs => by rw [h.2.2.2 7 (by decide), h.2.2.2 8 (by decide)]; exact a4 s hs
  · rw [h.1 25 (by decide), h.1 26 (by decide)]; exact a5
  · rw [h.2.1 0 (by decide)]; exact a6
  · rw [h.2.2.2 0 (by decide)]; exact a7
  · rw [h.2.2.2 1 (by decide)]; exact a8
  · rw [h.1 35 (by decide), h.2.2.2 12 (by decide), h.2.2.1 33 (by decide)]; exact a10
  · rw [h.2.1 1 (by decide)]; exact a11
  · rw [h.2.2.1 1 (by decide)]; exact a12
theorem x_noteL {v : Int64} {Q : zSt → Prop} (hN : 1100 < N) (h : XR σ tp fa l net x ba rg ls cm li oc) (hc : ls.1 < 1024) (hs : ∀ k, k < ls.1 → ls.2 k < v) (hQ : ∀ τ, fr [34] [] [32] [11] σ τ → XR τ tp fa l net x ba rg ((ls.1 + 1, fun k => if k = ls.1 then v else ls.2 k)) cm li oc → Q τ) : w_X1_note N v σ Q := by
  obtain ⟨g0, g1, g2⟩ := h.2.2.2.2.2.2.2.2.1
  obtain ⟨M, hM⟩ : ∃ M, N = M + 1 := ⟨N - 1, by omega⟩
  have n78 : ∀ f, b_X1_note_78 N (w_X1_note_78 N Q f) Q v (nI ls.1) (nI ls.1) σ := fun f => by
    unfold b_X1_note_78
    rw [nI_clamp (n := ls.1) (by omega)]
    have hf : fr [34] [] [32] [11] σ (zI (zA (zB σ 11 (vp_updL (σ.2.2.2 11) ls.1 v)) 32 (upd ((zB σ 11 (vp_updL (σ.2.2.2 11) ls.1 v)).2.2.1 32) ls.1 (1 : Int32))) 34 ((zA (zB σ 11 (vp_updL (σ.2.2.2 11) ls.1 v)) 32 (upd ((zB σ 11 (vp_updL (σ.2.2.2 11) ls.1 v)).2.2.1 32) ls.1 (1 : Int32))).1 34 + 1)) := fr_I (fr_A (fr_B fr_r (by decide)) (by decide)) (by decide)
    refine br_t (nI_le (Nat.le_refl _) (by omega)) ⟨vp_in_nI (by omega) (by decide), nm_e ⟨vp_in_nI (by omega) (by decide), nm_e (nm_e (hQ _ hf (X_ls hf h ⟨by show ls.1 + 1 ≤ 1024; omega, zI_1s.trans ?_, fun k hk => ?_⟩)))⟩⟩
    · show σ.1 34 + 1 = nI (ls.1 + 1)
      rw [g1, nI_1]
    · have hk : k < ls.1 + 1 := hk
      show vp_updL (σ.2.2.2 11) ls.1 v k = if k = ls.1 then v else ls.2 k
      by_cases q : k = ls.1
      · rw [if_pos q, q]; exact pk_uLs
      · rw [if_neg q, pk_uLn q]; exact g2 k (by omega)
  have n60 : b_X1_note_60 N Q v (nI ls.1) σ := by
    unfold b_X1_note_60
    rw [g1]
    refine br_f (nI_ge (b := 1024) (by omega) (by omega)) (nm_e ?_)
    have : ∀ f, 0 < f → w_X1_note_78 N Q f v (nI ls.1) (nI ls.1) σ := fun f hf => by
      cases f with
      | zero => exact absurd hf (Nat.not_lt_zero _)
      | succ f => exact n78 f
    exact this N (by omega)
  have ps : ¬ nI ls.1 ≤ 0 → 1 ≤ ls.1 := fun q => by
    by_cases w : ls.1 = 0
    · rw [w] at q; exact absurd (show nI 0 ≤ 0 by decide) q
    · omega
  have n28 : b_X1_note_28 N Q v (nI ls.1) σ := by
    unfold b_X1_note_28
    refine ⟨fun _ => n60, fun q => ?_⟩
    have q := ps q
    have lt := hs (ls.1 - 1) (by omega)
    rw [nI_s1 q, nI_clamp (n := ls.1 - 1) (by omega), g2 _ (by omega), lg_cmp_eq]
    exact ⟨vp_in_nI (by omega) (by decide), br_f (fun e => by rw [e] at lt; exact absurd lt (Int64.not_lt.mpr (Int64.le_refl _))) n60⟩
  have n5 : ∀ f, 0 < f → w_X1_note_5 N Q f v (nI ls.1) σ := fun f hf => by
    cases f with
    | zero => exact absurd hf (Nat.not_lt_zero _)
    | succ f =>
      show b_X1_note_5 N (w_X1_note_5 N Q f) Q v (nI ls.1) σ
      unfold b_X1_note_5
      refine ⟨fun _ => n28, fun q => ?_⟩
      have q := ps q
      have lt := hs (ls.1 - 1) (by omega)
      rw [nI_s1 q, nI_clamp (n := ls.1 - 1) (by omega), g2 _ (by omega), lg_cmp_le]
      exact ⟨vp_in_nI (by omega) (by decide), br_t (Int64.not_lt.mp (fun w => by rw [Int64.lt_iff_toInt_lt] at w lt; omega)) n28⟩
  unfold w_X1_note
  rw [g1]
  exact nm_e (n5 N (by omega))
end xn
