/-! what is lost by rest -/
section lo
variable {N : Nat} {σ τ μ ν : zSt} {tp : Nat × (Nat → Nat)} {fa : Int32 × Int32} {l : zL} {net : Nat} {x : Int32} {ba rg : Nat → Int64} {ls : Nat × (Nat → Int64)} {cm : Nat × (Nat → Int64) × (Nat → Int32)} {li : Int64} {oc : Nat → Int32}
theorem X_loss {k : Int32} {hi : Bool} {Q : Int64 → zSt → Prop} (hN : 1100 < N) (h : XR σ tp fa l net x ba rg ls cm li oc) (hQ : ∀ τ, XR τ tp fa l net x ba rg ls cm li oc → Q (losA l x k hi) τ) : w_X11_loss N k (b32 hi) σ Q := by
  unfold losA at hQ
  refine x_few h ⟨fun q => ?_, fun q => x_kind ⟨fun q2 => ?_, fun q2 => ?_⟩⟩
  · rw [if_neg (fun z => by rw [b32_0.mp q] at z; exact absurd z.1 (by decide))] at hQ; exact hQ σ h
  · rw [if_neg (fun z => by rw [b32_0.mp q2] at z; exact absurd z.2 (by decide))] at hQ; exact hQ σ h
  · have hf := b32_n.mp q
    have hk := b32_n.mp q2
    rw [if_pos ⟨hf, hk⟩] at hQ
    obtain ⟨j, hj, e1, e2⟩ := kin_t hk
    rw [e2] at hQ
    have h2 := few_2 hf
    have hp := few_pc hf
    rw [Xp h, oneJ (by omega), e1]
    refine nm_e ?_
    refine loopU (fun f i (s : zSt) => w_X11_loss_37 N Q f (nI j) (b32 hi) (b32 (losS l x j hi i).1) (losS l x j hi i).2 (lN (2 ^ lPc l)) (lN i) s) (fun _ s => XR s tp fa l net x ba rg ls cm li oc) (2 ^ lPc l) ?_ ?_ N 0 σ (Nat.zero_le _) (by omega) h
    · intro f s hs
      show b_X11_loss_37 N (w_X11_loss_37 N Q f) Q (nI j) (b32 hi) (b32 (losS l x j hi (2 ^ lPc l)).1) (losS l x j hi (2 ^ lPc l)).2 (lN (2 ^ lPc l)) (lN (2 ^ lPc l)) s
      unfold b_X11_loss_37
      refine br_t ((lgN_ge (by omega) (by omega)).mpr (Nat.le_refl _)) ⟨fun z => ?_, fun z => ?_⟩
      · rw [if_pos (b32_0.mp z)] at hQ; exact hQ s hs
      · rw [if_neg (fun y => z (b32_0.mpr y))] at hQ
        have hb := bsN_le l x (2 ^ lPc l - 1)
        exact x_bestNet hN hf hs (fun s2 hs2 => Xa hN hs2 (by omega) (fun s3 hs3 => hQ s3 hs3))
    · intro f i s hi2 hs ih
      show b_X11_loss_37 N (w_X11_loss_37 N Q f) Q (nI j) (b32 hi) (b32 (losS l x j hi i).1) (losS l x j hi i).2 (lN (2 ^ lPc l)) (lN i) s
      unfold b_X11_loss_37 b_X11_loss_109 b_X11_loss_113
      rw [losS] at ih
      rw [lN_1]
      refine br_f (fun z => by have := (lgN_ge (by omega) (by omega)).mp z; omega) (Xy hN hs hi2 ⟨fun z => ?_, fun z => Xr hN hs hj hp.1 hi2 (b32_n.mp z) (fun s2 hs2 => ⟨fun y => Xa hN hs2 hi2 (fun s3 hs3 => ?_), fun y => ?_⟩)⟩)
      · rw [if_neg (fun w => by rw [b32_0.mp z] at w; exact absurd w.1 (by decide))] at ih
        exact nm_e (ih s hs)
      · rw [if_pos ⟨b32_n.mp z, b32_0.mp y⟩] at ih
        rw [lg_cmp_le, lg_cmp_ge]
        refine ⟨fun w => ?_, fun w => ?_⟩
        · rw [if_pos (b32_0.mp w)] at ih
          exact nm_e (ih s3 hs3)
        · have w1 := b32_n.mp w
          rw [if_neg (fun v => w (b32_0.mpr v))] at ih
          have e0 : b32 (losS l x j hi i).1 = 1 := by rw [w1]; rfl
          refine ⟨fun u => ?_, fun u => ?_⟩
          · have u0 := b32_0.mp u
            subst u0
            rw [bet_f] at ih
            refine ⟨fun t => ?_, fun t => ?_⟩
            · rw [if_neg (fun v => Int64.not_le.mpr (of_decide_eq_true v) t)] at ih
              have := ih s3 hs3
              rw [e0] at this
              exact nm_e this
            · rw [if_pos (decide_eq_true (Int64.not_le.mp t))] at ih
              exact nm_e (ih s3 hs3)
          · have u1 := b32_n.mp u
            subst u1
            rw [bet_t] at ih
            refine ⟨fun t => ?_, fun t => ?_⟩
            · rw [if_neg (fun v => Int64.not_le.mpr (of_decide_eq_true v) t)] at ih
              have := ih s3 hs3
              rw [e0] at this
              exact nm_e this
            · rw [if_pos (decide_eq_true (Int64.not_le.mp t))] at ih
              exact nm_e (ih s3 hs3)
      · rw [if_neg (fun w => y (b32_0.mpr w.2))] at ih
        exact nm_e (ih s2 hs2)
theorem M_loss {k : Int32} {hi : Bool} {Q : Int64 → zSt → Prop} (hN : 1100 < N) (h : MR μ tp fa l net x ba rg ls cm li oc) (hQ : ∀ τ, MR τ tp fa l net x ba rg ls cm li oc → Q (losA l x k hi) τ) : w_X12_loss N k (b32 hi) μ Q := by
  unfold losA at hQ
  have h10 := h.2.2.1.1.1
  unfold w_X12_loss
  refine m_isIn ?_
  rw [kin_is]
  refine ⟨fun q2 => ?_, fun q2 => m_few h ⟨fun q => ?_, fun q => ?_⟩⟩
  · rw [if_neg (fun z => by rw [b32_0.mp q2] at z; exact absurd z.2 (by decide))] at hQ; exact hQ μ h
  · rw [if_neg (fun z => by rw [b32_0.mp q] at z; exact absurd z.1 (by decide))] at hQ; exact hQ μ h
  · have hf := b32_n.mp q
    have hk := b32_n.mp q2
    rw [if_pos ⟨hf, hk⟩] at hQ
    obtain ⟨j, hj, e1, e2⟩ := kin_t hk
    rw [e2] at hQ
    have h2 := few_2 hf
    have hp := few_pc hf
    rw [e1]
    refine loopU (fun f i (s : zSt) => w_X12_loss_31 N Q f (nI j) (b32 hi) (b32 (losS l x j hi i).1) (losS l x j hi i).2 (lN i) s) (fun _ s => MR s tp fa l net x ba rg ls cm li oc) (2 ^ lPc l) ?_ ?_ N 0 μ (Nat.zero_le _) (by omega) h
    · intro f s hs
      show b_X12_loss_31 N (w_X12_loss_31 N Q f) Q (nI j) (b32 hi) (b32 (losS l x j hi (2 ^ lPc l)).1) (losS l x j hi (2 ^ lPc l)).2 (lN (2 ^ lPc l)) s
      unfold b_X12_loss_31
      refine m_pairs (Mp hs) h10 ?_
      rw [show lPn l * (lPn l - 1) / 2 = lPc l from rfl, oneJ (by omega)]
      refine br_t ((lgN_ge (by omega) (by omega)).mpr (Nat.le_refl _)) ⟨fun z => ?_, fun z => ?_⟩
      · rw [if_pos (b32_0.mp z)] at hQ; exact hQ s hs
      · rw [if_neg (fun y => z (b32_0.mpr y))] at hQ
        have hb := bsN_le l x (2 ^ lPc l - 1)
        refine M_best hN hs (fun s2 hs2 => ?_)
        unfold bstA
        rw [if_pos hf]
        exact Ma hN hs2 (by omega) (fun s3 hs3 => hQ s3 hs3)
    · intro f i s hi2 hs ih
      show b_X12_loss_31 N (w_X12_loss_31 N Q f) Q (nI j) (b32 hi) (b32 (losS l x j hi i).1) (losS l x j hi i).2 (lN i) s
      unfold b_X12_loss_31 b_X12_loss_103
      refine m_pairs (Mp hs) h10 ?_
      rw [show lPn l * (lPn l - 1) / 2 = lPc l from rfl, oneJ (by omega), lN_1]
      rw [losS] at ih
      refine br_f (fun z => by have := (lgN_ge (by omega) (by omega)).mp z; omega) (My hN hs hi2 ⟨fun z => ?_, fun z => Mr hN hs hj hp.1 hi2 (fun s2 hs2 => ⟨fun y => ?_, fun y => Ma hN hs2 hi2 (fun s3 hs3 => ?_)⟩)⟩)
      · rw [if_neg (fun w => by rw [b32_0.mp z] at w; exact absurd w.1 (by decide))] at ih
        exact nm_e (ih s hs)
      · have y := b32_0.mp y
        rw [if_neg (fun w => by rw [w.2] at y; exact absurd y (by decide))] at ih
        exact nm_e (ih s2 hs2)
      · have y := b32_n.mp y
        rw [Bool.not_eq_true'] at y
        rw [if_pos ⟨b32_n.mp z, y⟩] at ih
        rw [lg_cmp_lt, lg_cmp_gt]
        refine ⟨fun w => ?_, fun w => ?_⟩
        · rw [if_pos (b32_0.mp w)] at ih
          exact nm_e (ih s3 hs3)
        · rw [if_neg (fun v => w (b32_0.mpr v))] at ih
          refine ⟨fun u => ?_, fun u => ?_⟩
          · have u0 := b32_0.mp u
            subst u0
            rw [bet_f] at ih
            refine ⟨fun t => ?_, fun t => ?_⟩
            · rw [if_pos (decide_eq_true t)] at ih
              exact nm_e (ih s3 hs3)
            · rw [if_neg (fun v => t (of_decide_eq_true v))] at ih
              exact nm_e (ih s3 hs3)
          · have u1 := b32_n.mp u
            subst u1
            rw [bet_t] at ih
            refine ⟨fun t => ?_, fun t => ?_⟩
            · rw [if_pos (decide_eq_true t)] at ih
              exact nm_e (ih s3 hs3)
            · rw [if_neg (fun v => t (of_decide_eq_true v))] at ih
              exact nm_e (ih s3 hs3)
end lo
