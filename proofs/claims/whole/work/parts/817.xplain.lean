/-! all nets at rest: the class lists them -/
section xp
variable {N : Nat} {σ τ μ ν : zSt} {tp : Nat × (Nat → Nat)} {fa : Int32 × Int32} {l : zL} {net : Nat} {x : Int32} {ba rg : Nat → Int64} {ls : Nat × (Nat → Int64)} {cm : Nat × (Nat → Int64) × (Nat → Int32)} {li : Int64} {oc : Nat → Int32}
theorem x_all37 {j : Nat} {b : Int32} {Q : Int32 → zSt → Prop} (hN : 1100 < N) (hf : fewB l = true) (hj : j < 6) (h : XR σ tp fa l net x ba rg (lsF l x j false 0) cm li oc) (hE : ∀ s, XR s tp fa l net x ba rg (lsF l x j false (2 ^ lPc l)) cm li oc → (b = 0 → Q (s.1 34) s) ∧ (¬ b = 0 → w_X11_keepShapes N s (fun τ2 => Q (τ2.1 34) τ2))) : w_X11_all_37 N Q N (nI j) b (lN (2 ^ lPc l)) (0 : Int64) σ := by
  have h2 := few_2 hf
  have hp := few_pc hf
  refine loopU (fun f i (s : zSt) => w_X11_all_37 N Q f (nI j) b (lN (2 ^ lPc l)) (lN i) s) (fun i s => XR s tp fa l net x ba rg (lsF l x j false i) cm li oc) (2 ^ lPc l) ?_ ?_ N 0 σ (Nat.zero_le _) (by omega) h
  · intro f s hs
    show b_X11_all_37 N (w_X11_all_37 N Q f) Q (nI j) b (lN (2 ^ lPc l)) (lN (2 ^ lPc l)) s
    unfold b_X11_all_37
    exact br_t ((lgN_ge (by omega) (by omega)).mpr (Nat.le_refl _)) (hE s hs)
  · intro f i s hi hs ih
    show b_X11_all_37 N (w_X11_all_37 N Q f) Q (nI j) b (lN (2 ^ lPc l)) (lN i) s
    obtain ⟨c1, c2, c3⟩ := all_ok l x j false i
    have keep : ¬ (mayv l i = true ∧ (rstO l (fun _ => x) i j).isSome = false ∧ (false = false ∨ newB (lPn l) (allF l x j false i).1 (allF l x j false i).2 i = true)) → ∀ t, XR t tp fa l net x ba rg (lsF l x j false i) cm li oc → w_X11_all_37 N Q f (nI j) b (lN (2 ^ lPc l)) (lN (i + 1)) t := fun z t ht => ih t (by
      have e : lsF l x j false (i + 1) = lsF l x j false i := by unfold lsF; rw [allF, if_neg z]
      rw [e]; exact ht)
    unfold b_X11_all_37
    rw [lN_1]
    refine br_f (fun z => by have := (lgN_ge (by omega) (by omega)).mp z; omega) (Xy hN hs hi ⟨fun z => ?_, fun z => Xr hN hs hj hp.1 hi (b32_n.mp z) (fun s2 hs2 => ⟨fun y => x_noteL hN hs2 (by show (allF l x j false i).1 < 1024; omega) (fun k hk => ?_) (fun s3 f3 hs3 => nm_e (ih s3 ?_)), fun y => ?_⟩)⟩)
    · exact nm_e (keep (fun w => by rw [b32_0.mp z] at w; exact absurd w.1 (by decide)) s hs)
    · have := c2 k hk
      exact (lN_lt (by omega) (by omega)).mpr this
    · have e : lsF l x j false (i + 1) = ((lsF l x j false i).1 + 1, fun k => if k = (lsF l x j false i).1 then lN i else (lsF l x j false i).2 k) := by
        unfold lsF
        rw [allF, if_pos ⟨b32_n.mp z, b32_0.mp y, Or.inl rfl⟩]
        refine Prod.ext rfl (funext (fun k => ?_))
        show lN (if k = (allF l x j false i).1 then i else (allF l x j false i).2 k) = if k = (allF l x j false i).1 then lN i else lN ((allF l x j false i).2 k)
        by_cases q : k = (allF l x j false i).1
        · rw [if_pos q, if_pos q]
        · rw [if_neg q, if_neg q]
      rw [e]; exact hs3
    · exact nm_e (keep (fun w => y (b32_0.mpr w.2.1)) s2 hs2)
end xp
