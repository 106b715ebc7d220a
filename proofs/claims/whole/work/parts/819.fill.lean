/-! no net is marked -/
theorem x_fill0 {N : Nat} {σ : zSt} {Q : zSt → Prop} (hN : 1100 < N) (hQ : ∀ τ, fr [] [] [0] [] σ τ → (∀ k, k < 1024 → τ.2.2.1 0 k = 0) → Q τ) : w_J7_fill_53178 N (0 : Int32) σ Q := by
  refine loopU (fun f i (s : zSt) => w_J7_fill_53178_5 N Q f (0 : Int32) (nI i) (nI 1024) s) (fun i s => fr [] [] [0] [] σ s ∧ ∀ k, k < i → s.2.2.1 0 k = 0) 1024 ?_ ?_ N 0 σ (Nat.zero_le _) (by omega) ⟨fr_r, fun k hk => absurd hk (Nat.not_lt_zero _)⟩
  · intro f s hs
    show b_J7_fill_53178_5 N (w_J7_fill_53178_5 N Q f) Q (0 : Int32) (nI 1024) (nI 1024) s
    unfold b_J7_fill_53178_5
    exact br_t (nI_le (Nat.le_refl _) (by omega)) (hQ s hs.1 hs.2)
  · intro f i s hi hs ih
    show b_J7_fill_53178_5 N (w_J7_fill_53178_5 N Q f) Q (0 : Int32) (nI i) (nI 1024) s
    unfold b_J7_fill_53178_5
    rw [nI_clamp (n := i) (by omega), nI_1]
    refine br_f (nI_ge hi (by omega)) ⟨vp_in_nI hi (by decide), nm_e (nm_e (ih _ ⟨fr_A hs.1 (by decide), fun k hk => ?_⟩))⟩
    show upd (s.2.2.1 0) i (0 : Int32) k = 0
    by_cases q : k = i
    · rw [q]; exact pk_us
    · rw [pk_un q]; exact hs.2 k (by omega)
