/-! land of the reference -/
section mA
variable {N : Nat} {σ τ μ ν : zSt} {tp : Nat × (Nat → Nat)} {fa : Int32 × Int32} {l : zL} {net : Nat} {x : Int32} {ba rg : Nat → Int64} {ls : Nat × (Nat → Int64)} {cm : Nat × (Nat → Int64) × (Nat → Int32)} {li : Int64} {oc : Nat → Int32}
/-- what was read stands: upper halves -/
theorem m_187 {Q : zSt → Prop} {n : Nat} (hN : 1100 < N) (hn : n ≤ 800) (h9 : μ.1 9 = nI n) (hQ : ∀ ν, fr [] [] [10] [] μ ν → (∀ k, k < n → ν.2.2.1 10 (900 + k) = μ.2.2.1 10 k) → Q ν) : w_X12_stands_187 N Q N (0 : Int32) μ := by
  refine loopU (fun f i (s : zSt) => w_X12_stands_187 N Q f (nI i) s) (fun i s => fr [] [] [10] [] μ s ∧ (∀ k, k < 900 → s.2.2.1 10 k = μ.2.2.1 10 k) ∧ ∀ k, k < i → s.2.2.1 10 (900 + k) = μ.2.2.1 10 k) n ?_ ?_ N 0 μ (Nat.zero_le _) (by omega) ⟨fr_r, fun _ _ => rfl, fun k hk => absurd hk (Nat.not_lt_zero _)⟩
  · intro f s hs
    show b_X12_stands_187 N (w_X12_stands_187 N Q f) Q (nI n) s
    unfold b_X12_stands_187
    rw [show s.1 9 = nI n by rw [hs.1.1 9 (by decide)]; exact h9]
    exact br_t (nI_le (Nat.le_refl _) (by omega)) (hQ s hs.1 hs.2.2)
  · intro f i s hi hs ih
    show b_X12_stands_187 N (w_X12_stands_187 N Q f) Q (nI i) s
    unfold b_X12_stands_187
    rw [show s.1 9 = nI n by rw [hs.1.1 9 (by decide)]; exact h9, show (900 : Int32) + nI i = nI (900 + i) from nI_add 900 i, nI_clamp (n := i) (by omega), nI_clamp (n := 900 + i) (by omega), nI_1]
    refine br_f (nI_ge hi (by omega)) ⟨vp_in_nI (by omega) (by decide), vp_in_nI (by omega) (by decide), nm_e (nm_e (ih _ ⟨fr_A hs.1 (by decide), fun k hk => ?_, fun k hk => ?_⟩))⟩
    · show upd (s.2.2.1 10) (900 + i) (s.2.2.1 10 i) k = _
      rw [pk_un (by omega)]; exact hs.2.1 k hk
    · show upd (s.2.2.1 10) (900 + i) (s.2.2.1 10 i) (900 + k) = _
      by_cases c : k = i
      · rw [c, pk_us]; exact hs.2.1 i (by omega)
      · rw [pk_un (by omega)]; exact hs.2.2 k (by omega)
def up20 (μ s : zSt) (a i : Nat) : Prop := (∀ k, k < 20 → s.2.2.1 a k = μ.2.2.1 a k) ∧ ∀ k, k < i → s.2.2.1 a (20 + k) = μ.2.2.1 a k
theorem up20_s {a i : Nat} {f : Nat → Int32} (h : up20 μ σ a i) (hi : i < 20) (hf : f = σ.2.2.1 a) : (∀ k, k < 20 → upd f (20 + i) (f i) k = μ.2.2.1 a k) ∧ ∀ k, k < i + 1 → upd f (20 + i) (f i) (20 + k) = μ.2.2.1 a k := by
  rw [hf]
  refine ⟨fun k hk => ?_, fun k hk => ?_⟩
  · rw [pk_un (by omega)]; exact h.1 k hk
  · by_cases c : k = i
    · rw [c, pk_us]; exact h.1 i hi
    · rw [pk_un (by omega)]; exact h.2 k (by omega)
theorem m_109 {Q : zSt → Prop} {n r : Nat} (hN : 1100 < N) (hn : n ≤ 800) (hr : r ≤ 20) (h9 : μ.1 9 = nI n) (h4 : μ.2.2.1 4 0 = nI r) (hQ : ∀ ν, fr [] [] [5, 6, 7, 8, 10] [] μ ν → up20 μ ν 5 r → up20 μ ν 6 r → up20 μ ν 7 r → up20 μ ν 8 r → (∀ k, k < n → ν.2.2.1 10 (900 + k) = μ.2.2.1 10 k) → Q ν) : w_X12_stands_109 N Q N (0 : Int32) μ := by
  refine loopU (fun f i (s : zSt) => w_X12_stands_109 N Q f (nI i) s) (fun i s => fr [] [] [5, 6, 7, 8] [] μ s ∧ up20 μ s 5 i ∧ up20 μ s 6 i ∧ up20 μ s 7 i ∧ up20 μ s 8 i) r ?_ ?_ N 0 μ (Nat.zero_le _) (by omega) ⟨fr_r, ⟨fun _ _ => rfl, fun k hk => absurd hk (Nat.not_lt_zero _)⟩, ⟨fun _ _ => rfl, fun k hk => absurd hk (Nat.not_lt_zero _)⟩, ⟨fun _ _ => rfl, fun k hk => absurd hk (Nat.not_lt_zero _)⟩, ⟨fun _ _ => rfl, fun k hk => absurd hk (Nat.not_lt_zero _)⟩⟩
  · intro f s hs
    show b_X12_stands_109 N (w_X12_stands_109 N Q f) Q (nI r) s
    unfold b_X12_stands_109
    rw [show s.2.2.1 4 0 = nI r by rw [hs.1.2.2.1 4 (by decide)]; exact h4]
    refine br_t (nI_le (Nat.le_refl _) (by omega)) (m_187 (n := n) hN hn (by rw [hs.1.1 9 (by decide)]; exact h9) (fun ν f1 z1 => hQ ν (fr_t (fr_w hs.1 (subl rfl) (subl rfl) (subl rfl) (subl rfl)) (fr_w f1 (subl rfl) (subl rfl) (subl rfl) (subl rfl))) ?_ ?_ ?_ ?_ (fun k hk => ?_)))
    · unfold up20; rw [f1.2.2.1 5 (by decide)]; exact hs.2.1
    · unfold up20; rw [f1.2.2.1 6 (by decide)]; exact hs.2.2.1
    · unfold up20; rw [f1.2.2.1 7 (by decide)]; exact hs.2.2.2.1
    · unfold up20; rw [f1.2.2.1 8 (by decide)]; exact hs.2.2.2.2
    · rw [z1 k hk, hs.1.2.2.1 10 (by decide)]
  · intro f i s hi hs ih
    show b_X12_stands_109 N (w_X12_stands_109 N Q f) Q (nI i) s
    have v1 : vp_in (nI i) 40 := vp_in_nI (by omega) (by decide)
    have v2 : vp_in (nI (20 + i)) 40 := vp_in_nI (by omega) (by decide)
    unfold b_X12_stands_109
    rw [show s.2.2.1 4 0 = nI r by rw [hs.1.2.2.1 4 (by decide)]; exact h4, show (20 : Int32) + nI i = nI (20 + i) from nI_add 20 i, nI_clamp (n := i) (by omega), nI_clamp (n := 20 + i) (by omega), nI_1]
    refine br_f (nI_ge hi (by omega)) ⟨v1, v2, nm_e ⟨v1, v2, nm_e ⟨v1, v2, nm_e ⟨v1, v2, nm_e (nm_e (ih _ ⟨fr_A (fr_A (fr_A (fr_A hs.1 (by decide)) (by decide)) (by decide)) (by decide), ?_, ?_, ?_, ?_⟩))⟩⟩⟩⟩
    · exact up20_s hs.2.1 (by omega) rfl
    · exact up20_s hs.2.2.1 (by omega) rfl
    · exact up20_s hs.2.2.2.1 (by omega) rfl
    · exact up20_s hs.2.2.2.2 (by omega) rfl
def up10 (μ s : zSt) (i : Nat) : Prop := ((∀ k, k < 10 → s.2.2.2 0 k = μ.2.2.2 0 k ∧ s.2.2.1 2 k = μ.2.2.1 2 k ∧ s.2.2.1 3 k = μ.2.2.1 3 k) ∧ ∀ k, k < i → s.2.2.2 0 (10 + k) = μ.2.2.2 0 k ∧ s.2.2.1 2 (10 + k) = μ.2.2.1 2 k ∧ s.2.2.1 3 (10 + k) = μ.2.2.1 3 k)
theorem m_50s {Q : zSt → Prop} {n r : Nat} (hN : 1100 < N) (hn : n ≤ 800) (hr : r ≤ 20) (h9 : μ.1 9 = nI n) (h4 : μ.2.2.1 4 0 = nI r) (hQ : ∀ ν, fr [] [] [2, 3, 5, 6, 7, 8, 10] [0] μ ν → up10 μ ν 10 → up20 μ ν 5 r → up20 μ ν 6 r → up20 μ ν 7 r → up20 μ ν 8 r → (∀ k, k < n → ν.2.2.1 10 (900 + k) = μ.2.2.1 10 k) → Q ν) : w_X12_stands_50 N Q N (0 : Int32) μ := by
  refine loopU (fun f i (s : zSt) => w_X12_stands_50 N Q f (nI i) s) (fun i s => fr [] [] [2, 3] [0] μ s ∧ up10 μ s i) 10 ?_ ?_ N 0 μ (Nat.zero_le _) (by omega) ⟨fr_r, fun _ _ => ⟨rfl, rfl, rfl⟩, fun k hk => absurd hk (Nat.not_lt_zero _)⟩
  · intro f s hs
    show b_X12_stands_50 N (w_X12_stands_50 N Q f) Q (nI 10) s
    unfold b_X12_stands_50
    refine br_t (nI_le (a := 10) (Nat.le_refl _) (by decide)) (m_109 (n := n) (r := r) hN hn hr (by rw [hs.1.1 9 (by decide)]; exact h9) (by rw [hs.1.2.2.1 4 (by decide)]; exact h4) (fun ν f1 z5 z6 z7 z8 z10 => hQ ν (fr_t (fr_w hs.1 (subl rfl) (subl rfl) (subl rfl) (subl rfl)) (fr_w f1 (subl rfl) (subl rfl) (subl rfl) (subl rfl))) ?_ ?_ ?_ ?_ ?_ (fun k hk => ?_)))
    · unfold up10; rw [f1.2.2.1 2 (by decide), f1.2.2.1 3 (by decide), f1.2.2.2 0 (by decide)]; exact hs.2
    · unfold up20 at z5 ⊢; rw [hs.1.2.2.1 5 (by decide)] at z5; exact z5
    · unfold up20 at z6 ⊢; rw [hs.1.2.2.1 6 (by decide)] at z6; exact z6
    · unfold up20 at z7 ⊢; rw [hs.1.2.2.1 7 (by decide)] at z7; exact z7
    · unfold up20 at z8 ⊢; rw [hs.1.2.2.1 8 (by decide)] at z8; exact z8
    · rw [z10 k hk, hs.1.2.2.1 10 (by decide)]
  · intro f i s hi hs ih
    show b_X12_stands_50 N (w_X12_stands_50 N Q f) Q (nI i) s
    have v1 : vp_in (nI i) 20 := vp_in_nI (by omega) (by decide)
    have v2 : vp_in (nI (10 + i)) 20 := vp_in_nI (by omega) (by decide)
    unfold b_X12_stands_50
    rw [show (10 : Int32) + nI i = nI (10 + i) from nI_add 10 i, nI_clamp (n := i) (by omega), nI_clamp (n := 10 + i) (by omega), nI_1]
    refine br_f (nI_ge (b := 10) hi (by decide)) ⟨v1, v2, nm_e ⟨v1, v2, nm_e ⟨v1, v2, nm_e (nm_e (ih _ ⟨fr_A (fr_A (fr_B hs.1 (by decide)) (by decide)) (by decide), fun k hk => ?_, fun k hk => ?_⟩))⟩⟩⟩
    · show vp_updL (s.2.2.2 0) (10 + i) (s.2.2.2 0 i) k = _ ∧ upd (s.2.2.1 2) (10 + i) (s.2.2.1 2 i) k = _ ∧ upd (s.2.2.1 3) (10 + i) (s.2.2.1 3 i) k = _
      rw [pk_uLn (by omega), pk_un (by omega), pk_un (by omega)]; exact hs.2.1 k hk
    · show vp_updL (s.2.2.2 0) (10 + i) (s.2.2.2 0 i) (10 + k) = _ ∧ upd (s.2.2.1 2) (10 + i) (s.2.2.1 2 i) (10 + k) = _ ∧ upd (s.2.2.1 3) (10 + i) (s.2.2.1 3 i) (10 + k) = _
      by_cases c : k = i
      · rw [c, pk_uLs, pk_us, pk_us]; exact hs.2.1 i hi
      · rw [pk_uLn (by omega), pk_un (by omega), pk_un (by omega)]; exact hs.2.2 k (by omega)
end mA
