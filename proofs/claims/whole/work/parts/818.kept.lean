/-! one of each shape, kept of a list -/
def kpF (n : Nat) (r : Nat → Nat) : Nat → Nat × (Nat → Nat)
  | 0 => (0, fun _ => 0)
  | t + 1 => if newB n (kpF n r t).1 (kpF n r t).2 (r t) = true then ((kpF n r t).1 + 1, fun k => if k = (kpF n r t).1 then r t else (kpF n r t).2 k) else kpF n r t
theorem kpF_c {n : Nat} {r r' : Nat → Nat} : ∀ t, (∀ k, k < t → r k = r' k) → kpF n r t = kpF n r' t
  | 0, _ => rfl
  | t + 1, h => by
    have ih := kpF_c (n := n) t (fun k hk => h k (by omega))
    rw [kpF, kpF, ih, h t (by omega)]
theorem kpF_le {n : Nat} {r : Nat → Nat} : ∀ t, (kpF n r t).1 ≤ t
  | 0 => Nat.le_refl _
  | t + 1 => by
    have ih := kpF_le (n := n) (r := r) t
    rw [kpF]
    split
    · show (kpF n r t).1 + 1 ≤ t + 1
      omega
    · omega
theorem kpF_all (l : zL) (x : Int32) (kind : Nat) : ∀ i, allF l x kind true i = kpF (lPn l) (allF l x kind false i).2 (allF l x kind false i).1
  | 0 => rfl
  | i + 1 => by
    have ih := kpF_all l x kind i
    by_cases q : mayv l i = true ∧ (rstO l (fun _ => x) i kind).isSome = false
    · have e : allF l x kind false (i + 1) = ((allF l x kind false i).1 + 1, fun k => if k = (allF l x kind false i).1 then i else (allF l x kind false i).2 k) := by
        rw [allF, if_pos ⟨q.1, q.2, Or.inl rfl⟩]
      rw [e]
      show allF l x kind true (i + 1) = kpF (lPn l) (fun k => if k = (allF l x kind false i).1 then i else (allF l x kind false i).2 k) ((allF l x kind false i).1 + 1)
      have ec : kpF (lPn l) (fun k => if k = (allF l x kind false i).1 then i else (allF l x kind false i).2 k) (allF l x kind false i).1 = allF l x kind true i := by
        rw [ih]
        exact kpF_c _ (fun k hk => if_neg (by omega))
      rw [kpF, ec, if_pos rfl, allF]
      by_cases z : newB (lPn l) (allF l x kind true i).1 (allF l x kind true i).2 i = true
      · rw [if_pos ⟨q.1, q.2, Or.inr z⟩, if_pos z]
      · rw [if_neg (fun w => w.2.2.elim (fun y => absurd y (by decide)) z), if_neg z]
    · have e : allF l x kind false (i + 1) = allF l x kind false i := by
        rw [allF, if_neg (fun w => q ⟨w.1, w.2.1⟩)]
      rw [e, allF, if_neg (fun w => q ⟨w.1, w.2.1⟩)]
      exact ih
