/-! a new object, class and reference -/
section nw
variable {N : Nat} {Q : zSt → Prop}
theorem la0_P : lPok la0 := ⟨Nat.zero_le _, fun p hp => absurd hp (Nat.not_lt_zero _), Nat.one_pos⟩
theorem la0_R : lRok la0 := ⟨Nat.zero_le _, fun r hr => absurd hr (Nat.not_lt_zero _)⟩
theorem X_new (hN : 8300 < N) (hQ : ∀ τ, XR τ (0, fun _ => 0) (0, -1) la0 0 0 (fun _ => -1) (fun _ => -1) (0, fun _ => 0) (0, fun _ => 0, fun _ => 0) (-1000000000000) (fun _ => -1) → Q τ) : w_X11_init N Q := by
  unfold w_X11_init
  refine p_init (by omega) (fun uP hP => x_words (by omega) (fun k => rfl) (fun uR fR oR => x_sets (by omega) (fun p hp => hP.1 p hp) (fun t => ⟨rfl, rfl⟩) (fun uC fC iC => ?_)))
  unfold b_X11_init_211
  refine x_octs (by omega) (fun τ f o => x_forget hN (fun ω fω o25 o26 o27 o34 o35 j0 j1 j4 z0 z1 z5 => hQ ω ?_))
  refine ⟨⟨Nat.zero_le _, ?_, fun k hk => absurd hk (Nat.not_lt_zero _)⟩, ⟨?_, ?_, fun i hi => ?_⟩, ⟨la0_P, la0_R, ⟨?_, ?_, ?_, fun p hp => absurd hp (Nat.not_lt_zero _)⟩, ⟨?_, fun r hr => absurd hr (Nat.not_lt_zero _)⟩, ⟨fun p hp => ?_, fun q hq => ?_⟩, Or.inl j4, fun s hs => Or.inl (z5 s hs), fun p hp => ?_⟩, fun s hs => ?_, ⟨⟨by decide, by decide⟩, o25, o26⟩, ⟨Nat.two_pow_pos _, j0⟩, z0, z1, ⟨Nat.zero_le _, o34, fun k hk => absurd hk (Nat.not_lt_zero _)⟩, ⟨Nat.zero_le _, o35, fun k hk => absurd hk (Nat.not_lt_zero _)⟩, j1, fun k hk => ?_⟩
  · rw [fω.1 0 (by decide), f.1 0 (by decide)]; rfl
  · rw [fω.1 8 (by decide), f.1 8 (by decide)]
    show uR.1 1 = 0
    rw [fR.1 1 (by decide)]; rfl
  · rw [fω.1 9 (by decide), f.1 9 (by decide)]
    show uR.1 2 = -1
    rw [fR.1 2 (by decide)]; rfl
  · rw [fω.2.2.1 14 (by decide), f.2.2.1 14 (by decide)]
    exact oR i hi
  · rw [fω.1 1 (by decide), f.1 1 (by decide)]
    show uC.1 2 = 0
    rw [fC.1 2 (by decide)]; rfl
  · rw [fω.1 2 (by decide), f.1 2 (by decide)]
    show uC.1 3 = 0
    rw [fC.1 3 (by decide)]; rfl
  · rw [fω.2.1 2 (by decide), f.2.1 2 (by decide)]
    show uC.2.1 1 = 0
    rw [fC.2.1 1 (by decide)]; rfl
  · rw [fω.1 4 (by decide), f.1 4 (by decide)]; rfl
  · rw [fω.2.2.1 3 (by decide), f.2.2.1 3 (by decide), fω.2.2.1 4 (by decide), f.2.2.1 4 (by decide)]
    show uC.2.2.1 3 p = _ ∧ uC.2.2.1 4 p = _
    rw [fC.2.2.1 3 (by decide), fC.2.2.1 4 (by decide)]
    exact hP.1 p hp
  · rw [fω.2.2.2 2 (by decide), f.2.2.2 2 (by decide)]
    show uC.2.2.2 3 q = _
    rw [fC.2.2.2 3 (by decide)]
    exact hP.2 q hq
  · rw [o25, o26, o27, if_neg (m1_ne (by omega))]
  · rw [fω.2.2.2 7 (by decide), f.2.2.2 7 (by decide), fω.2.2.2 8 (by decide), f.2.2.2 8 (by decide)]
    exact iC s hs
  · rw [fω.2.2.1 1 (by decide)]
    exact o k hk
theorem M_new : MR zM0 (0, fun _ => 0) (0, -1) la0 0 0 (fun _ => -1) (fun _ => -1) (0, fun _ => 0) (0, fun _ => 0, fun _ => 0) (-1000000000000) (fun _ => -1) := by
  refine ⟨⟨Nat.zero_le _, rfl, fun k hk => absurd hk (Nat.not_lt_zero _)⟩, ⟨rfl, rfl⟩, ⟨la0_P, la0_R, ⟨rfl, rfl, fun p hp => absurd hp (Nat.not_lt_zero _)⟩, ⟨rfl, fun r hr => absurd hr (Nat.not_lt_zero _)⟩, fun p hp => ?_, Or.inl rfl, fun _ => Or.inl rfl⟩, fun p hp => absurd hp (Nat.not_lt_zero _), ⟨⟨by decide, by decide⟩, rfl, rfl⟩, ⟨Nat.two_pow_pos _, rfl⟩, Or.inl ⟨rfl, fun _ _ => rfl⟩, Or.inl ⟨rfl, fun _ _ => rfl⟩, ⟨Nat.zero_le _, rfl, fun k hk => absurd hk (Nat.not_lt_zero _)⟩, ⟨Nat.zero_le _, rfl, fun k hk => absurd hk (Nat.not_lt_zero _)⟩, Or.inl ⟨rfl, rfl⟩, Or.inl ⟨rfl, fun _ _ => rfl⟩⟩
  show (if nI p = (-1 : Int32) then (0 : Int32) + 0 else 0) = 0
  rw [if_neg (m1_ne (by omega))]
end nw
