/-! land of the reference: a fault leaves the land as it was; else the new one stands -/
def mUp (μ ν : zSt) : Prop := (∀ k, 10 ≤ k → ν.2.2.1 2 k = μ.2.2.1 2 k ∧ ν.2.2.1 3 k = μ.2.2.1 3 k ∧ ν.2.2.2 0 k = μ.2.2.2 0 k) ∧ (∀ k, 20 ≤ k → ν.2.2.1 5 k = μ.2.2.1 5 k ∧ ν.2.2.1 6 k = μ.2.2.1 6 k ∧ ν.2.2.1 7 k = μ.2.2.1 7 k ∧ ν.2.2.1 8 k = μ.2.2.1 8 k) ∧ (∀ k, 900 ≤ k → ν.2.2.1 10 k = μ.2.2.1 10 k) ∧ (∀ k, 1 ≤ k → ν.2.2.1 1 k = μ.2.2.1 1 k ∧ ν.2.2.1 4 k = μ.2.2.1 4 k ∧ ν.2.2.1 9 k = μ.2.2.1 9 k ∧ ν.2.2.2 1 k = μ.2.2.2 1 k)
section mB
variable {N : Nat} {σ τ μ ν : zSt} {tp : Nat × (Nat → Nat)} {fa : Int32 × Int32} {l : zL} {net : Nat} {x : Int32} {ba rg : Nat → Int64} {ls : Nat × (Nat → Int64)} {cm : Nat × (Nat → Int64) × (Nat → Int32)} {li : Int64} {oc : Nat → Int32}
theorem M_lfail (f : fr [0, 1, 2, 3, 4, 5, 6, 7, 8, 9, 10, 11, 12, 13] [] [1, 2, 3, 4, 5, 6, 7, 8, 9, 10, 11] [0, 1] μ ν) (hu : mUp μ ν) (h0 : ν.1 0 = 0) (h : MR μ tp fa l net x ba rg ls cm li oc) : MR ν ((0, tp.2)) ((ν.1 6, ν.1 7)) l net x ba rg ls cm li oc := by
  obtain ⟨a1, a2, a3, a4, a5, a6, a7, a8, a9, a10, a11, a12⟩ := h
  obtain ⟨b1, b2, b3, b4, b5, b6, b7⟩ := a3
  obtain ⟨u1, u2, u3, u4⟩ := hu
  refine ⟨⟨Nat.zero_le _, h0, fun k hk => absurd hk (Nat.not_lt_zero _)⟩, ⟨rfl, rfl⟩, ⟨b1, b2, ⟨?_, ?_, fun p hp => ?_⟩, ⟨?_, fun r hr => ?_⟩, ?_, ?_, ?_⟩, fun p hp => ?_, ?_, ?_, ?_, ?_, ?_, ?_, ?_, ?_⟩
  · rw [(u4 1 (Nat.le_refl _)).1]; exact b3.1
  · rw [(u4 1 (Nat.le_refl _)).2.2.2]; exact b3.2.1
  · rw [(u1 (10 + p) (by omega)).1, (u1 (10 + p) (by omega)).2.1]; exact b3.2.2 p hp
  · rw [(u4 1 (Nat.le_refl _)).2.1]; exact b4.1
  · obtain ⟨c1, c2, c3, c4, c5⟩ := b4.2 r hr
    rw [(u2 (20 + r) (by omega)).1, (u2 (20 + r) (by omega)).2.1, (u2 (20 + r) (by omega)).2.2.1, (u2 (20 + r) (by omega)).2.2.2]
    exact ⟨c1, c2, c3, c4, fun k h1 h2 => by rw [u3 (900 + k) (by omega)]; exact c5 k h1 h2⟩
  · intro p hp
    rw [f.1 16 (by decide), f.1 14 (by decide), f.1 17 (by decide)]; exact b5 p hp
  · unfold mLk; rw [f.2.1 1 (by decide), f.2.2.1 12 (by decide), f.2.2.1 13 (by decide), f.1 15 (by decide)]; exact b6
  · unfold mTb; rw [f.1 19 (by decide), f.2.2.2 3 (by decide)]; exact b7
  · rw [(u1 (10 + p) (by omega)).2.2]; exact a4 p hp
  · rw [f.1 14 (by decide), f.1 16 (by decide)]; exact a5
  · rw [f.2.1 0 (by decide)]; exact a6
  · unfold mBa; rw [f.1 22 (by decide), f.1 23 (by decide), f.2.1 3 (by decide)]; exact a7
  · unfold mRg; rw [f.1 25 (by decide), f.1 26 (by decide), f.2.1 5 (by decide)]; exact a8
  · rw [f.1 27 (by decide), f.2.2.2 6 (by decide)]; exact a9
  · rw [f.1 28 (by decide), f.2.2.2 7 (by decide), f.2.2.1 16 (by decide)]; exact a10
  · unfold mLi; rw [f.1 29 (by decide), f.2.1 6 (by decide)]; exact a11
  · unfold mOc; rw [f.1 30 (by decide), f.2.2.1 17 (by decide)]; exact a12
end mB
