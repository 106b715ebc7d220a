/-! land of the reference -/
section mC2
variable {N : Nat} {σ τ μ ν : zSt} {tp : Nat × (Nat → Nat)} {fa : Int32 × Int32} {l : zL} {net : Nat} {x : Int32} {ba rg : Nat → Int64} {ls : Nat × (Nat → Int64)} {cm : Nat × (Nat → Int64) × (Nat → Int32)} {li : Int64} {oc : Nat → Int32}
theorem mFs_u (h : mFs μ ν) : mUp μ ν := ⟨h.2.1, h.2.2.1, h.2.2.2.1, h.2.2.2.2⟩
theorem mUp_t {υ : zSt} (h : mUp μ ν) (h2 : mUp ν υ) : mUp μ υ := by
  obtain ⟨a2, a3, a4, a5⟩ := h
  obtain ⟨b2, b3, b4, b5⟩ := h2
  exact ⟨fun k hk => ⟨(b2 k hk).1.trans (a2 k hk).1, (b2 k hk).2.1.trans (a2 k hk).2.1, (b2 k hk).2.2.trans (a2 k hk).2.2⟩, fun k hk => ⟨(b3 k hk).1.trans (a3 k hk).1, (b3 k hk).2.1.trans (a3 k hk).2.1, (b3 k hk).2.2.1.trans (a3 k hk).2.2.1, (b3 k hk).2.2.2.trans (a3 k hk).2.2.2⟩, fun k hk => (b4 k hk).trans (a4 k hk), fun k hk => ⟨(b5 k hk).1.trans (a5 k hk).1, (b5 k hk).2.1.trans (a5 k hk).2.1, (b5 k hk).2.2.1.trans (a5 k hk).2.2.1, (b5 k hk).2.2.2.trans (a5 k hk).2.2.2⟩⟩
theorem M_land {Q : Int32 → zSt → Prop} (hN : 8300 < N) (h : MR μ tp fa l net x ba rg ls cm li oc) (h1 : ∀ q τ, laP tp = .ok q → MR τ (0, tp.2) (0, -1) (lanL q.1) 0 0 (fun _ => -1) (fun _ => -1) (0, ls.2) (0, cm.2) (-1000000000000) oc → Q (nI q.2) τ) (h2 : ∀ e τ, laP tp = .error e → MR τ ((0, tp.2)) ((nI e.1, nI e.2)) l net x ba rg ls cm li oc → Q (-1) τ) : w_X12_land N μ Q := by
  have hTp := h.1
  have h8 : tp.1 ≤ 800 := hTp.1
  unfold w_X12_land
  refine nm_e (nm_e (nm_e (nm_e (nm_e (nm_e (nm_e (nm_e (nm_e (nm_e (nm_e (nm_e ?_)))))))))))
  generalize hω : zI (zI (zB (zA (zA (zA (zI (zI (zI (zI (zI (zI μ 2 (μ.1 0)) 0 (0 : Int32)) 1 (0 : Int32)) 3 (-1 : Int32)) 4 (0 : Int32)) 5 (-1 : Int32)) 1 _) 4 _) 9 _) 1 _) 9 (0 : Int32)) 12 (0 : Int32) = ω
  have fω : fr [0, 1, 2, 3, 4, 5, 9, 12] [] [1, 4, 9] [1] μ ω := by rw [← hω]; exact fr_I (fr_I (fr_B (fr_A (fr_A (fr_A (fr_I (fr_I (fr_I (fr_I (fr_I (fr_I fr_r (by decide)) (by decide)) (by decide)) (by decide)) (by decide)) (by decide)) (by decide)) (by decide)) (by decide)) (by decide)) (by decide)) (by decide)
  have uω : mUp μ ω := by
    rw [← hω]
    exact ⟨fun k _ => ⟨rfl, rfl, rfl⟩, fun k _ => ⟨rfl, rfl, rfl, rfl⟩, fun k _ => rfl, fun k hk => ⟨pk_un (by omega), pk_un (by omega), pk_un (by omega), pk_uLn (by omega)⟩⟩
  have w0 : ω.1 0 = 0 := by rw [← hω]; rfl
  have w1 : ω.1 1 = 0 := by rw [← hω]; rfl
  have w2 : ω.1 2 = nI tp.1 := by rw [← hω]; exact hTp.2.1
  have w3 : ω.1 3 = -1 := by rw [← hω]; rfl
  have w4 : ω.1 4 = 0 := by rw [← hω]; rfl
  have w5 : ω.1 5 = -1 := by rw [← hω]; rfl
  have w9 : ω.1 9 = 0 := by rw [← hω]; rfl
  have w12 : ω.1 12 = 0 := by rw [← hω]; rfl
  have x1 : ω.2.2.1 1 0 = 0 := by rw [← hω]; rfl
  have x4 : ω.2.2.1 4 0 = 0 := by rw [← hω]; rfl
  have x9 : ω.2.2.1 9 0 = 0 := by rw [← hω]; rfl
  have y1 : ω.2.2.2 1 0 = 0 := by rw [← hω]; rfl
  clear hω
  have hq : mQ ω tp (((0, false, 0, []) : zP), la0, 0) := by
    refine ⟨⟨h8, w2, fun k hk => ⟨(hTp.2.2 k hk).1, by rw [fω.2.2.1 0 (by decide)]; exact (hTp.2.2 k hk).2⟩⟩, ⟨Nat.zero_le _, w4, ⟨0, w1, Nat.le_refl _, Nat.zero_le _⟩, ?_, w5⟩, ⟨w9, fun k hk => absurd hk (Nat.not_lt_zero _)⟩, x1, x9, y1, fun p hp => absurd hp (Nat.not_lt_zero _), x4, fun r hr => absurd hr (Nat.not_lt_zero _)⟩
    show mEn (ω.1 3) 0 false
    rw [w3]
    show (if false = true then _ else (-1 : Int32).toInt < ((0 : Nat) : Int))
    rw [if_neg (by decide)]
    decide
  refine m_71 (by omega) 801 N 0 ω _ rfl (by omega) (Nat.zero_le _) hq q0_ok w12 (fun r ν er f k g => ?_) (fun e ν he f b => ?_)
  · -- a new land
    have hqo : qOk r.1 := (gE_o (laP_g (tp := tp) h8) er).1
    have hle : r.1.1.1 ≤ tp.1 := k.2.1.1
    have hl8 : r.1.1.2.2.2.length ≤ 800 := by have := hqo.2.1; omega
    have hn10 : lPn r.1.2.1 ≤ 10 := hqo.2.2.1.1
    have hr20 : lRc r.1.2.1 ≤ 20 := hqo.2.2.2.2.2.1
    have k4 : ν.1 4 = 0 := k.2.1.2.1
    have k5 : ν.1 5 = -1 := k.2.1.2.2.2.2
    obtain ⟨d1, d2, d3, d4, d5, d6⟩ := k.2.2.2
    have dc := k.2.2.1
    unfold b_X12_land_93
    refine nm_e (nm_e (br_t k4 ?_))
    unfold w_X12_stands
    refine nm_e (nm_e (nm_e (nm_e ?_)))
    generalize hρ : zB (zA (zA (zA (zI (zI ν 6 (ν.1 4)) 7 _) 1 _) 4 _) 9 _) 1 _ = ρ
    have fρ : fr [6, 7] [] [1, 4, 9] [1] ν ρ := by rw [← hρ]; exact fr_B (fr_A (fr_A (fr_A (fr_I (fr_I fr_r (by decide)) (by decide)) (by decide)) (by decide)) (by decide)) (by decide)
    have p6 : ρ.1 6 = 0 := by rw [← hρ]; exact k4
    have p7 : ρ.1 7 = -1 := by rw [← hρ]; exact k5
    have q1 : ρ.2.2.1 1 1 = nI (lPn r.1.2.1) := by rw [← hρ]; exact d1
    have q40 : ρ.2.2.1 4 0 = nI (lRc r.1.2.1) := by rw [← hρ]; exact d5
    have q4 : ρ.2.2.1 4 1 = nI (lRc r.1.2.1) := by rw [← hρ]; exact d5
    have qb : ρ.2.2.2 1 1 = lN (lBa r.1.2.1) := by rw [← hρ]; exact d3
    clear hρ
    refine m_50s (n := r.1.1.2.2.2.length) (r := lRc r.1.2.1) (by omega) hl8 hr20 (by rw [fρ.1 9 (by decide)]; exact dc.1) q40 (fun τ fτ t10 t5 t6 t7 t8 tc => ?_)
    refine nm_e (nm_e (nm_e (nm_e (nm_e (nm_e (nm_e (nm_e (nm_e ?_))))))))
    generalize hκ : zI (zI (zI (zI (zI (zJ (zI (zI (zJ τ 0 (0 : Int64)) 14 (0 : Int32)) 19 (0 : Int32)) 1 (-1 : Int64)) 22 (-1 : Int32)) 25 (0 : Int32)) 27 (0 : Int32)) 28 (0 : Int32)) 29 (0 : Int32) = κ
    have fκ : fr [14, 19, 22, 25, 27, 28, 29] [0, 1] [] [] τ κ := by rw [← hκ]; exact fr_I (fr_I (fr_I (fr_I (fr_I (fr_J (fr_I (fr_I (fr_J fr_r (by decide)) (by decide)) (by decide)) (by decide)) (by decide)) (by decide)) (by decide)) (by decide)) (by decide)
    have z14 : κ.1 14 = 0 := by rw [← hκ]; rfl
    have z19 : κ.1 19 = 0 := by rw [← hκ]; rfl
    have z22 : κ.1 22 = -1 := by rw [← hκ]; rfl
    have z25 : κ.1 25 = 0 := by rw [← hκ]; rfl
    have z27 : κ.1 27 = 0 := by rw [← hκ]; rfl
    have z28 : κ.1 28 = 0 := by rw [← hκ]; rfl
    have z29 : κ.1 29 = 0 := by rw [← hκ]; rfl
    have zj0 : κ.2.1 0 = 0 := by rw [← hκ]; rfl
    have zj1 : κ.2.1 1 = -1 := by rw [← hκ]; rfl
    clear hκ
    have g12 : κ.1 12 = nI r.2 := by rw [fκ.1 12 (by decide), fτ.1 12 (by decide), fρ.1 12 (by decide)]; exact g
    rw [g12]
    have fA : fr [0, 1, 2, 3, 4, 5, 6, 7, 8, 9, 10, 11, 12, 13, 14, 19, 22, 25, 27, 28, 29] [0, 1] [1, 2, 3, 4, 5, 6, 7, 8, 9, 10, 11] [0, 1] μ κ := fr_t (fr_w fω (subl rfl) (subl rfl) (subl rfl) (subl rfl)) (fr_t (fr_w f.1 (subl rfl) (subl rfl) (subl rfl) (subl rfl)) (fr_t (fr_w fρ (subl rfl) (subl rfl) (subl rfl) (subl rfl)) (fr_t (fr_w fτ (subl rfl) (subl rfl) (subl rfl) (subl rfl)) (fr_w fκ (subl rfl) (subl rfl) (subl rfl) (subl rfl)))))
    obtain ⟨a1, a2, a3, a4, a5, a6, a7, a8, a9, a10, a11, a12⟩ := h
    have hok := lan_ok hqo hl8
    refine h1 r κ er ⟨⟨Nat.zero_le _, ?_, fun k hk => absurd hk (Nat.not_lt_zero _)⟩, ⟨?_, ?_⟩, ⟨hok.1, hok.2, ⟨?_, ?_, fun p hp => ?_⟩, ⟨?_, fun j hj => ?_⟩, fun p hp => ?_, Or.inl zj1, fun _ => Or.inl z19⟩, fun p hp => ?_, ⟨⟨by decide, by decide⟩, z14, ?_⟩, ⟨Nat.two_pow_pos _, zj0⟩, Or.inl ⟨z22, fun _ _ => rfl⟩, Or.inl ⟨z25, fun _ _ => rfl⟩, ⟨Nat.zero_le _, z27, fun k hk => absurd hk (Nat.not_lt_zero _)⟩, ⟨Nat.zero_le _, z28, fun k hk => absurd hk (Nat.not_lt_zero _)⟩, Or.inl ⟨z29, rfl⟩, ?_⟩
    · rw [fκ.1 0 (by decide), fτ.1 0 (by decide), fρ.1 0 (by decide), f.1.1 0 (by decide)]; exact w0
    · rw [fκ.1 6 (by decide), fτ.1 6 (by decide)]; exact p6
    · rw [fκ.1 7 (by decide), fτ.1 7 (by decide)]; exact p7
    · rw [fκ.2.2.1 1 (by decide), fτ.2.2.1 1 (by decide)]; exact q1
    · rw [fκ.2.2.2 1 (by decide), fτ.2.2.2 1 (by decide)]; exact qb
    · have hp : p < lPn r.1.2.1 := hp
      obtain ⟨e1, e2, e3⟩ := t10.2 p (by omega)
      rw [fκ.2.2.1 2 (by decide), fκ.2.2.1 3 (by decide), e2, e3, fρ.2.2.1 2 (by decide), fρ.2.2.1 3 (by decide)]
      exact ⟨(d4 p hp).2.1, (d4 p hp).2.2⟩
    · rw [fκ.2.2.1 4 (by decide), fτ.2.2.1 4 (by decide)]; exact q4
    · have hj : j < lRc r.1.2.1 := hj
      obtain ⟨e1, e2, e3, e4⟩ := d6 j hj
      rw [fκ.2.2.1 5 (by decide), fκ.2.2.1 6 (by decide), fκ.2.2.1 7 (by decide), fκ.2.2.1 8 (by decide), fκ.2.2.1 10 (by decide), t5.2 j hj, t6.2 j hj, t7.2 j hj, t8.2 j hj, fρ.2.2.1 5 (by decide), fρ.2.2.1 6 (by decide), fρ.2.2.1 7 (by decide), fρ.2.2.1 8 (by decide)]
      refine ⟨e1, e2, e3, e4, fun k hk1 hk2 => ?_⟩
      have hk3 : k < r.1.1.2.2.2.length := by
        have h3 := (hqo.2.2.2.2.2.2 j hj).2.2.2.1
        have hk2 : k < lSt r.1.2.1 j := hk2
        omega
      rw [tc k hk3, fρ.2.2.1 10 (by decide)]
      exact dc.2 k hk3
    · rw [z14, fA.1 16 (by decide), a5.2.2, if_neg (m1_ne (by omega))]
    · have hp : p < lPn r.1.2.1 := hp
      obtain ⟨e1, e2, e3⟩ := t10.2 p (by omega)
      refine ⟨hqo.2.2.2.1 p hp, ?_⟩
      rw [fκ.2.2.2 0 (by decide), e1, fρ.2.2.2 0 (by decide)]
      exact (d4 p hp).1
    · rw [fA.1 16 (by decide)]; exact a5.2.2
    · unfold mOc; rw [fA.1 30 (by decide), fA.2.2.1 17 (by decide)]; exact a12
  · -- a fault
    unfold b_X12_land_93
    refine nm_e (nm_e (br_f (mBx_n b) ?_))
    have fA : fr [0, 1, 2, 3, 4, 5, 6, 7, 8, 9, 10, 11, 12, 13] [] [1, 2, 3, 4, 5, 6, 7, 8, 9, 10, 11] [0, 1] μ (zI (zI ν 6 (ν.1 4)) 7 ((zI ν 6 (ν.1 4)).1 5)) := fr_t (fr_w fω (subl rfl) (subl rfl) (subl rfl) (subl rfl)) (fr_t (fr_w f.1 (subl rfl) (subl rfl) (subl rfl) (subl rfl)) (fr_I (fr_I fr_r (by decide)) (by decide)))
    have hm := M_lfail fA (show mUp μ _ from (mUp_t uω (mFs_u f) : mUp μ ν)) (show ν.1 0 = 0 by rw [f.1.1 0 (by decide)]; exact w0) h
    have e6 : (zI (zI ν 6 (ν.1 4)) 7 ((zI ν 6 (ν.1 4)).1 5)).1 6 = nI e.1 := b.1.1
    have e7 : (zI (zI ν 6 (ν.1 4)) 7 ((zI ν 6 (ν.1 4)).1 5)).1 7 = nI e.2 := b.1.2
    rw [e6, e7] at hm
    exact h2 e _ he hm
end mC2
