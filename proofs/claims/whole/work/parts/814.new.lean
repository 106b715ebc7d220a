/-! the reference asks whether a shape is new -/
def newB (n c : Nat) (r : Nat → Nat) (v : Nat) : Bool := (List.range c).all (fun k => !smF n (r k) v 120 (List.range n))
theorem new_t {n c v : Nat} {r : Nat → Nat} (h : ∀ k, k < c → smF n (r k) v 120 (List.range n) = false) : newB n c r v = true := by
  unfold newB
  rw [List.all_eq_true]
  intro k hk
  rw [h k (List.mem_range.mp hk)]; rfl
theorem new_f {n c v k : Nat} {r : Nat → Nat} (hk : k < c) (h : smF n (r k) v 120 (List.range n) = true) : newB n c r v = false := by
  cases hb : newB n c r v with
  | false => rfl
  | true =>
    unfold newB at hb
    rw [List.all_eq_true] at hb
    have := hb k (List.mem_range.mpr hk)
    rw [h] at this
    exact absurd this (by decide)
section nw
variable {N : Nat} {σ τ μ ν : zSt} {tp : Nat × (Nat → Nat)} {fa : Int32 × Int32} {l : zL} {net : Nat} {x : Int32} {ba rg : Nat → Int64} {ls : Nat × (Nat → Int64)} {cm : Nat × (Nat → Int64) × (Nat → Int32)} {li : Int64} {oc : Nat → Int32}
theorem m_isNew {r : Nat → Nat} {v : Nat} {Q : Int32 → zSt → Prop} (hN : 1100 < N) (hf : fewB l = true) (hr : ∀ k, k < ls.1 → ls.2 k = lN (r k) ∧ r k < 2 ^ lPc l) (hv : v < 2 ^ lPc l) (h : MR μ tp fa l net x ba rg ls cm li oc) (hQ : ∀ τ, MR τ tp fa l net x ba rg ls cm li oc → Q (b32 (newB (lPn l) ls.1 r v)) τ) : w_X12_isNewShape N (lN v) μ Q := by
  have hp := few_pc hf
  have h1024 := few_2 hf
  have h2 : 2 ≤ lPn l := by
    have hf := hf
    unfold fewB at hf
    rw [Bool.and_eq_true, decide_eq_true_eq] at hf
    exact hf.1
  have hls : ls.1 ≤ 1024 := h.2.2.2.2.2.2.2.2.1.1
  refine loopU (fun f k (s : zSt) => w_X12_isNewShape_2 N Q f (lN v) (nI k) s) (fun k s => MR s tp fa l net x ba rg ls cm li oc ∧ ∀ j, j < k → smF (lPn l) (r j) v 120 (List.range (lPn l)) = false) ls.1 ?_ ?_ N 0 μ (Nat.zero_le _) (by omega) ⟨h, fun j hj => absurd hj (Nat.not_lt_zero _)⟩
  · intro f s hs
    show b_X12_isNewShape_2 N (w_X12_isNewShape_2 N Q f) Q (lN v) (nI ls.1) s
    have hq := hQ s hs.1
    rw [new_t hs.2] at hq
    unfold b_X12_isNewShape_2
    rw [hs.1.2.2.2.2.2.2.2.2.1.2.1]
    exact br_t (nI_le (Nat.le_refl _) (by omega)) hq
  · intro f k s hk hs ih
    show b_X12_isNewShape_2 N (w_X12_isNewShape_2 N Q f) Q (lN v) (nI k) s
    obtain ⟨r1, r2⟩ := hr k hk
    have g := hs.1.2.2.2.2.2.2.2.2.1.2
    unfold b_X12_isNewShape_2
    rw [g.1, nI_clamp (n := k) (by omega), g.2 k hk, r1, nI_1]
    refine br_f (nI_ge hk (by omega)) ⟨vp_in_nI (by omega) (by decide), m_bits (by omega) (by omega) (m_bits (by omega) (by omega) ⟨fun e => ⟨vp_in_nI (by omega) (by decide), ?_⟩, fun e => nm_e (ih s ⟨hs.1, fun j hj => ?_⟩)⟩)⟩
    · rw [g.2 k hk, r1]
      refine m_same hN hf r2 hv hs.1 (fun τ t1 => ⟨fun y => nm_e (ih τ ⟨t1, fun j hj => ?_⟩), fun y => ?_⟩)
      · by_cases q : j = k
        · rw [q]; exact b32_0.mp y
        · exact hs.2 j (by omega)
      · have hq := hQ τ t1
        rw [new_f hk (b32_n.mp y)] at hq
        exact hq
    · by_cases q : j = k
      · rw [q]
        cases hb : smF (lPn l) (r k) v 120 (List.range (lPn l)) with
        | false => rfl
        | true => exact absurd (congrArg nI (smF_ct hp.1 r2 120 _ (chk_all _ (by omega) h2) hb)) e
      · exact hs.2 j (by omega)
end nw
