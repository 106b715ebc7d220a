/-! what stays as it was -/
def fr (I J A B : List Nat) (σ τ : zSt) : Prop := (∀ k, k ∉ I → τ.1 k = σ.1 k) ∧ (∀ k, k ∉ J → τ.2.1 k = σ.2.1 k) ∧ (∀ k, k ∉ A → τ.2.2.1 k = σ.2.2.1 k) ∧ (∀ k, k ∉ B → τ.2.2.2 k = σ.2.2.2 k)
section fra
variable {I J A B I' J' A' B' : List Nat} {σ τ υ : zSt} {k : Nat}
theorem fr_r : fr I J A B σ σ := ⟨fun _ _ => rfl, fun _ _ => rfl, fun _ _ => rfl, fun _ _ => rfl⟩
theorem fr_t (h : fr I J A B σ τ) (h2 : fr I J A B τ υ) : fr I J A B σ υ := ⟨fun k q => (h2.1 k q).trans (h.1 k q), fun k q => (h2.2.1 k q).trans (h.2.1 k q), fun k q => (h2.2.2.1 k q).trans (h.2.2.1 k q), fun k q => (h2.2.2.2 k q).trans (h.2.2.2 k q)⟩
theorem fr_w (h : fr I J A B σ τ) (hI : ∀ k, k ∈ I → k ∈ I') (hJ : ∀ k, k ∈ J → k ∈ J') (hA : ∀ k, k ∈ A → k ∈ A') (hB : ∀ k, k ∈ B → k ∈ B') : fr I' J' A' B' σ τ := ⟨fun k q => h.1 k (fun r => q (hI k r)), fun k q => h.2.1 k (fun r => q (hJ k r)), fun k q => h.2.2.1 k (fun r => q (hA k r)), fun k q => h.2.2.2 k (fun r => q (hB k r))⟩
theorem fr_I (h : fr I J A B σ τ) (hk : k ∈ I) {v : Int32} : fr I J A B σ (zI τ k v) := ⟨fun j q => (zI_1n (fun e : j = k => q (e ▸ hk))).trans (h.1 j q), h.2.1, h.2.2.1, h.2.2.2⟩
theorem fr_J (h : fr I J A B σ τ) (hk : k ∈ J) {v : Int64} : fr I J A B σ (zJ τ k v) := ⟨h.1, fun j q => (zJ_2n (fun e : j = k => q (e ▸ hk))).trans (h.2.1 j q), h.2.2.1, h.2.2.2⟩
theorem fr_A (h : fr I J A B σ τ) (hk : k ∈ A) {v : Nat → Int32} : fr I J A B σ (zA τ k v) := ⟨h.1, h.2.1, fun j q => (zA_3n (fun e : j = k => q (e ▸ hk))).trans (h.2.2.1 j q), h.2.2.2⟩
theorem fr_B (h : fr I J A B σ τ) (hk : k ∈ B) {v : Nat → Int64} : fr I J A B σ (zB τ k v) := ⟨h.1, h.2.1, h.2.2.1, fun j q => (zB_4n (fun e : j = k => q (e ▸ hk))).trans (h.2.2.2 j q)⟩
end fra
theorem subl {X Y : List Nat} (h : X.all (fun k => Y.contains k) = true) : ∀ k, k ∈ X → k ∈ Y := fun k hk => by
  have := List.all_eq_true.mp h k hk
  simpa using this
theorem lgz_ge (x y : Int64) : (nI 0 ≤ lg_cmp x y) ↔ y ≤ x := lg_cmp_ge x y
theorem lgz_le (x y : Int64) : (lg_cmp x y ≤ nI 0) ↔ x ≤ y := lg_cmp_le x y
theorem lgz_gt (x y : Int64) : (nI 0 < lg_cmp x y) ↔ y < x := lg_cmp_gt x y
theorem lgz_lt (x y : Int64) : (lg_cmp x y < nI 0) ↔ x < y := lg_cmp_lt x y
theorem lgz_eq (x y : Int64) : (lg_cmp x y = nI 0) ↔ x = y := lg_cmp_eq x y
