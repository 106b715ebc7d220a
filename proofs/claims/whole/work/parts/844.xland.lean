/-! land of the class -/
def lanL (q : zQ) : zL := (lPn q.2.1, lPl q.2.1, lMo q.2.1, lBa q.2.1, lNa q.2.1, lRc q.2.1, lKi q.2.1, lSu q.2.1, lTe q.2.1, lSt q.2.1, cdF q.1.2.2.2)
theorem lan_ok {q : zQ} (h : qOk q) (hl : q.1.2.2.2.length ≤ 800) : lPok (lanL q) ∧ lRok (lanL q) := by
  refine ⟨h.2.2.1, h.2.2.2.2.2.1, fun r hr => ?_⟩
  obtain ⟨a1, a2, a3, a4, a5, a6⟩ := h.2.2.2.2.2.2 r hr
  exact ⟨a1, a2, a3, Nat.le_trans a4 hl, a5, a6⟩
section xd
variable {N : Nat} {σ τ μ ν : zSt} {tp : Nat × (Nat → Nat)} {fa : Int32 × Int32} {l : zL} {net : Nat} {x : Int32} {ba rg : Nat → Int64} {ls : Nat × (Nat → Int64)} {cm : Nat × (Nat → Int64) × (Nat → Int32)} {li : Int64} {oc : Nat → Int32}
theorem x_fil_1 {Q : zSt → Prop} (hN : 8300 < N) (hQ : ∀ τ, fr [] [] [] [0] σ τ → (∀ k, k < 3 → τ.2.2.2 0 k = -1) → Q τ) : w_J7_fill_d0a16 N (-1 : Int64) σ Q := by
  refine loopU (fun f i (s : zSt) => w_J7_fill_d0a16_6 N Q f (-1 : Int64) (nI i) (nI 3) s) (fun i s => fr [] [] [] [0] σ s ∧ ∀ k, k < i → s.2.2.2 0 k = -1) 3 ?_ ?_ N 0 σ (Nat.zero_le _) (by omega) ⟨fr_r, fun k hk => absurd hk (Nat.not_lt_zero _)⟩
  · intro f s hs
    show b_J7_fill_d0a16_6 N (w_J7_fill_d0a16_6 N Q f) Q (-1 : Int64) (nI 3) (nI 3) s
    unfold b_J7_fill_d0a16_6
    exact br_t (nI_le (Nat.le_refl _) (by omega)) (hQ s hs.1 hs.2)
  · intro f i s hi hs ih
    show b_J7_fill_d0a16_6 N (w_J7_fill_d0a16_6 N Q f) Q (-1 : Int64) (nI i) (nI 3) s
    unfold b_J7_fill_d0a16_6
    rw [nI_clamp (n := i) (by omega), nI_1]
    refine br_f (nI_ge hi (by omega)) ⟨vp_in_nI hi (by decide), nm_e (nm_e (ih _ ⟨fr_B hs.1 (by decide), fun k hk => ?_⟩))⟩
    show vp_updL (s.2.2.2 0) i (-1 : Int64) k = -1
    by_cases q : k = i
    · rw [q]; exact pk_uLs
    · rw [pk_uLn q]; exact hs.2 k (by omega)
theorem x_fil_2 {Q : zSt → Prop} (hN : 8300 < N) (hQ : ∀ τ, fr [] [] [] [1] σ τ → (∀ k, k < 2 → τ.2.2.2 1 k = -1) → Q τ) : w_J7_fill_d0a16_2 N (-1 : Int64) σ Q := by
  refine loopU (fun f i (s : zSt) => w_J7_fill_d0a16_2_6 N Q f (-1 : Int64) (nI i) (nI 2) s) (fun i s => fr [] [] [] [1] σ s ∧ ∀ k, k < i → s.2.2.2 1 k = -1) 2 ?_ ?_ N 0 σ (Nat.zero_le _) (by omega) ⟨fr_r, fun k hk => absurd hk (Nat.not_lt_zero _)⟩
  · intro f s hs
    show b_J7_fill_d0a16_2_6 N (w_J7_fill_d0a16_2_6 N Q f) Q (-1 : Int64) (nI 2) (nI 2) s
    unfold b_J7_fill_d0a16_2_6
    exact br_t (nI_le (Nat.le_refl _) (by omega)) (hQ s hs.1 hs.2)
  · intro f i s hi hs ih
    show b_J7_fill_d0a16_2_6 N (w_J7_fill_d0a16_2_6 N Q f) Q (-1 : Int64) (nI i) (nI 2) s
    unfold b_J7_fill_d0a16_2_6
    rw [nI_clamp (n := i) (by omega), nI_1]
    refine br_f (nI_ge hi (by omega)) ⟨vp_in_nI hi (by decide), nm_e (nm_e (ih _ ⟨fr_B hs.1 (by decide), fun k hk => ?_⟩))⟩
    show vp_updL (s.2.2.2 1) i (-1 : Int64) k = -1
    by_cases q : k = i
    · rw [q]; exact pk_uLs
    · rw [pk_uLn q]; exact hs.2 k (by omega)
theorem x_fil_3 {Q : zSt → Prop} (hN : 8300 < N) (hQ : ∀ τ, fr [] [] [] [5] σ τ → (∀ k, k < 8192 → τ.2.2.2 5 k = -1) → Q τ) : w_J7_fill_d0a16_3 N (-1 : Int64) σ Q := by
  refine loopU (fun f i (s : zSt) => w_J7_fill_d0a16_3_6 N Q f (-1 : Int64) (nI i) (nI 8192) s) (fun i s => fr [] [] [] [5] σ s ∧ ∀ k, k < i → s.2.2.2 5 k = -1) 8192 ?_ ?_ N 0 σ (Nat.zero_le _) (by omega) ⟨fr_r, fun k hk => absurd hk (Nat.not_lt_zero _)⟩
  · intro f s hs
    show b_J7_fill_d0a16_3_6 N (w_J7_fill_d0a16_3_6 N Q f) Q (-1 : Int64) (nI 8192) (nI 8192) s
    unfold b_J7_fill_d0a16_3_6
    exact br_t (nI_le (Nat.le_refl _) (by omega)) (hQ s hs.1 hs.2)
  · intro f i s hi hs ih
    show b_J7_fill_d0a16_3_6 N (w_J7_fill_d0a16_3_6 N Q f) Q (-1 : Int64) (nI i) (nI 8192) s
    unfold b_J7_fill_d0a16_3_6
    rw [nI_clamp (n := i) (by omega), nI_1]
    refine br_f (nI_ge hi (by omega)) ⟨vp_in_nI hi (by decide), nm_e (nm_e (ih _ ⟨fr_B hs.1 (by decide), fun k hk => ?_⟩))⟩
    show vp_updL (s.2.2.2 5) i (-1 : Int64) k = -1
    by_cases q : k = i
    · rw [q]; exact pk_uLs
    · rw [pk_uLn q]; exact hs.2 k (by omega)
theorem x_forget {Q : zSt → Prop} (hN : 8300 < N) (hQ : ∀ τ, fr [25, 26, 27, 34, 35] [0, 1, 4] [] [0, 1, 5] σ τ → τ.1 25 = 0 → τ.1 26 = -1 → τ.1 27 = 0 → τ.1 34 = 0 → τ.1 35 = 0 → τ.2.1 0 = 0 → τ.2.1 1 = -1000000000000 → τ.2.1 4 = -1 → (∀ k, k < 3 → τ.2.2.2 0 k = -1) → (∀ k, k < 2 → τ.2.2.2 1 k = -1) → (∀ k, k < 8192 → τ.2.2.2 5 k = -1) → Q τ) : w_X11_forget N σ Q := by
  unfold w_X11_forget
  refine nm_e (nm_e (x_fil_1 hN (fun τ1 f1 z1 => x_fil_2 hN (fun τ2 f2 z2 => nm_e (nm_e ?_)))))
  unfold w_X10_startAnew w_X10_pretend
  refine nm_e (nm_e (nm_e (nm_e (x_fil_3 hN (fun τ3 f3 z3 => ?_)))))
  have g1 : fr [25, 26, 27, 34, 35] [0, 1, 4] [] [0, 1, 5] σ τ1 := fr_t (fr_J (fr_J fr_r (by decide)) (by decide)) (fr_w f1 (subl rfl) (subl rfl) (subl rfl) (subl rfl))
  have g2 : fr [25, 26, 27, 34, 35] [0, 1, 4] [] [0, 1, 5] σ τ2 := fr_t g1 (fr_w f2 (subl rfl) (subl rfl) (subl rfl) (subl rfl))
  refine hQ τ3 (fr_t (fr_I (fr_I (fr_J (fr_I (fr_I (fr_I g2 (by decide)) (by decide)) (by decide)) (by decide)) (by decide)) (by decide)) (fr_w f3 (subl rfl) (subl rfl) (subl rfl) (subl rfl))) ?_ ?_ ?_ ?_ ?_ ?_ ?_ ?_ ?_ ?_ z3
  · rw [f3.1 25 (by decide)]; rfl
  · rw [f3.1 26 (by decide)]; rfl
  · rw [f3.1 27 (by decide)]; rfl
  · rw [f3.1 34 (by decide)]; rfl
  · rw [f3.1 35 (by decide)]; rfl
  · rw [f3.2.1 0 (by decide)]
    show τ2.2.1 0 = 0
    rw [f2.2.1 0 (by decide), f1.2.1 0 (by decide)]; rfl
  · rw [f3.2.1 1 (by decide)]
    show τ2.2.1 1 = _
    rw [f2.2.1 1 (by decide), f1.2.1 1 (by decide)]; rfl
  · rw [f3.2.1 4 (by decide)]; rfl
  · intro k hk
    rw [f3.2.2.2 0 (by decide)]
    show τ2.2.2.2 0 k = -1
    rw [f2.2.2.2 0 (by decide)]; exact z1 k hk
  · intro k hk
    rw [f3.2.2.2 1 (by decide)]
    exact z2 k hk
theorem X_lfail {k q : Int32} (f : xFR σ τ) (h : XR σ tp fa l net x ba rg ls cm li oc) (e8 : τ.1 8 = k) (e9 : τ.1 9 = q) : XR (zI τ 0 (0 : Int32)) ((0, tp.2)) ((k, q)) l net x ba rg ls cm li oc := by
  have g : fr [0, 7, 8, 9, 10, 11, 12, 13, 14, 15, 16, 17, 18, 19, 20, 21, 23, 24] [3] [15, 16, 17, 18, 19, 20, 21, 22, 24, 25, 26, 27] [] σ (zI τ 0 (0 : Int32)) := fr_I (fr_w f (subl rfl) (subl rfl) (subl rfl) (subl rfl)) (by decide)
  obtain ⟨a1, a2, a3, a4, a5, a6, a7, a8, a9, a10, a11, a12⟩ := h
  refine ⟨⟨Nat.zero_le _, rfl, fun k hk => absurd hk (Nat.not_lt_zero _)⟩, ⟨e8, e9, ?_⟩, xG_fr g (notin rfl) (notin rfl) (notin rfl) (notin rfl) a3, ?_, ?_, ?_, ?_, ?_, ?_, ?_, ?_, ?_⟩
  · rw [g.2.2.1 14 (by decide)]; exact a2.2.2
  · exact fun s hs => by rw [g.2.2.2 7 (by decide), g.2.2.2 8 (by decide)]; exact a4 s hs
  · rw [g.1 25 (by decide), g.1 26 (by decide)]; exact a5
  · rw [g.2.1 0 (by decide)]; exact a6
  · rw [g.2.2.2 0 (by decide)]; exact a7
  · rw [g.2.2.2 1 (by decide)]; exact a8
  · rw [g.1 34 (by decide), g.2.2.2 11 (by decide)]; exact a9
  · rw [g.1 35 (by decide), g.2.2.2 12 (by decide), g.2.2.1 33 (by decide)]; exact a10
  · rw [g.2.1 1 (by decide)]; exact a11
  · rw [g.2.2.1 1 (by decide)]; exact a12
theorem X_land {Q : Int32 → zSt → Prop} (hN : 8300 < N) (h : XR σ tp fa l net x ba rg ls cm li oc) (h1 : ∀ q τ, laP tp = .ok q → XR τ (0, tp.2) (0, -1) (lanL q.1) 0 0 (fun _ => -1) (fun _ => -1) (0, ls.2) (0, cm.2) (-1000000000000) oc → Q (nI q.2) τ) (h2 : ∀ e τ, laP tp = .error e → XR τ ((0, tp.2)) ((nI e.1, nI e.2)) l net x ba rg ls cm li oc → Q (-1) τ) : w_X11_land N σ Q := by
  have h8 := h.1.1
  unfold w_X11_land
  refine x_read (by omega) h.1 h.2.1.2.2 (fun q τ e f x y => nm_e (br_f (by decide) ?_)) (fun e τ he f y z => nm_e (br_t rfl (h2 e _ he (X_lfail f h y z))))
  have gq := gE_o (laP_g (tp := tp) h8) e
  have hqo : qOk q.1 := gq.1
  have hle := xK_le x.1.1
  have hl8 : q.1.1.2.2.2.length ≤ 800 := by have := hqo.2.1; omega
  obtain ⟨r1, r2, r3, r4, r5, r6, r7⟩ := x.2
  have hc := x.1.1.2.2.2.2
  have t8 : τ.1 8 = 0 ∧ τ.1 9 = -1 := x.1.1.1.2.2.2.2
  unfold w_X4_copy w_X6_copy
  refine nm_e (nm_e (nm_e (nm_e (nm_e (nm_e (nm_e (nm_e (nm_e (nm_e (nm_e (nm_e (nm_e (nm_e ?_)))))))))))))
  generalize hυ : zA (zA (zA (zA (zA (zI (zI (zA (zA (zA (zJ (zI (zI (zI (zI τ 0 (0 : Int32)) 1 ((zI τ 0 (0 : Int32)).1 17)) 2 _) 3 _) 2 _) 5 _) 6 _) 7 _) 4 _) 5 _) 8 _) 9 _) 10 _) 11 _) 12 _ = υ
  have fυ : fr [0, 1, 2, 3, 4, 5] [2] [5, 6, 7, 8, 9, 10, 11, 12] [] τ υ := by
    rw [← hυ]
    exact fr_A (fr_A (fr_A (fr_A (fr_A (fr_I (fr_I (fr_A (fr_A (fr_A (fr_J (fr_I (fr_I (fr_I (fr_I fr_r (by decide)) (by decide)) (by decide)) (by decide)) (by decide)) (by decide)) (by decide)) (by decide)) (by decide)) (by decide)) (by decide)) (by decide)) (by decide)) (by decide)) (by decide)
  have u0 : υ.1 0 = 0 := by rw [← hυ]; rfl
  have u1 : υ.1 1 = nI (lPn q.1.2.1) := by rw [← hυ]; exact r1
  have u2 : υ.1 2 = nI (lPc q.1.2.1) := by rw [← hυ]; exact r2
  have uj : υ.2.1 2 = lN (lBa q.1.2.1) := by rw [← hυ]; exact r4
  have u4 : υ.1 4 = nI (lRc q.1.2.1) := by rw [← hυ]; exact r6
  have u5 : υ.2.2.1 5 = va_cpy (τ.2.2.1 15) (τ.2.2.1 5) 0 0 10 := by rw [← hυ]; rfl
  have u6 : υ.2.2.1 6 = va_cpy (τ.2.2.1 16) (τ.2.2.1 6) 0 0 10 := by rw [← hυ]; rfl
  have u7 : υ.2.2.1 7 = va_cpy (τ.2.2.1 17) (τ.2.2.1 7) 0 0 10 := by rw [← hυ]; rfl
  have u8 : υ.2.2.1 8 = va_cpy (τ.2.2.1 18) (τ.2.2.1 8) 0 0 20 := by rw [← hυ]; rfl
  have u9 : υ.2.2.1 9 = va_cpy (τ.2.2.1 19) (τ.2.2.1 9) 0 0 20 := by rw [← hυ]; rfl
  have u10 : υ.2.2.1 10 = va_cpy (τ.2.2.1 20) (τ.2.2.1 10) 0 0 20 := by rw [← hυ]; rfl
  have u11 : υ.2.2.1 11 = va_cpy (τ.2.2.1 21) (τ.2.2.1 11) 0 0 20 := by rw [← hυ]; rfl
  have u12 : υ.2.2.1 12 = va_cpy (τ.2.2.1 22) (τ.2.2.1 12) 0 0 800 := by rw [← hυ]; rfl
  have cp : ∀ (f g : Nat → Int32) (n k : Nat), k < n → va_cpy f g 0 0 n k = f k := fun f g n k hk => by rw [pk_cpy_in (Nat.zero_le _) (by omega)]; congr 1; omega
  clear hυ
  have hn10 : lPn q.1.2.1 ≤ 10 := hqo.2.2.1.1
  have hr20 : lRc q.1.2.1 ≤ 20 := hqo.2.2.2.2.2.1
  refine x_forget hN (fun ω fω o25 o26 o27 o34 o35 j0 j1 j4 z0 z1 z5 => ?_)
  have fσ : fr [0, 1, 2, 3, 4, 5, 7, 8, 9, 10, 11, 12, 13, 14, 15, 16, 17, 18, 19, 20, 21, 23, 24, 25, 26, 27, 34, 35] [0, 1, 2, 3, 4] [5, 6, 7, 8, 9, 10, 11, 12, 15, 16, 17, 18, 19, 20, 21, 22, 24, 25, 26, 27] [0, 1, 5] σ ω := fr_t (fr_w f (subl rfl) (subl rfl) (subl rfl) (subl rfl)) (fr_t (fr_w fυ (subl rfl) (subl rfl) (subl rfl) (subl rfl)) (fr_w fω (subl rfl) (subl rfl) (subl rfl) (subl rfl)))
  rw [show ω.1 7 = nI q.2 by rw [fω.1 7 (by decide), fυ.1 7 (by decide)]; exact y]
  obtain ⟨a1, a2, a3, a4, a5, a6, a7, a8, a9, a10, a11, a12⟩ := h
  have hok := lan_ok hqo hl8
  refine h1 q ω e ⟨⟨Nat.zero_le _, by rw [fω.1 0 (by decide)]; exact u0, fun k hk => absurd hk (Nat.not_lt_zero _)⟩, ⟨?_, ?_, ?_⟩, ⟨hok.1, hok.2, ⟨?_, ?_, ?_, fun p hp => ?_⟩, ⟨?_, fun r hr => ?_⟩, ?_, Or.inl j4, fun s hs => Or.inl (z5 s hs), fun p hp => ?_⟩, ?_, ⟨⟨by decide, by decide⟩, o25, o26⟩, ⟨Nat.two_pow_pos _, j0⟩, z0, z1, ⟨Nat.zero_le _, o34, fun k hk => absurd hk (Nat.not_lt_zero _)⟩, ⟨Nat.zero_le _, o35, fun k hk => absurd hk (Nat.not_lt_zero _)⟩, j1, ?_⟩
  · rw [fω.1 8 (by decide), fυ.1 8 (by decide)]; exact t8.1
  · rw [fω.1 9 (by decide), fυ.1 9 (by decide)]; exact t8.2
  · rw [fσ.2.2.1 14 (by decide)]; exact a2.2.2
  · rw [fω.1 1 (by decide)]; exact u1
  · rw [fω.1 2 (by decide)]; exact u2
  · rw [fω.2.1 2 (by decide)]; exact uj
  · have hp : p < lPn q.1.2.1 := hp
    obtain ⟨b1, b2, b3⟩ := r5 p hp
    rw [fω.2.2.1 5 (by decide), fω.2.2.1 6 (by decide), fω.2.2.1 7 (by decide), u5, u6, u7, cp _ _ _ _ (by omega), cp _ _ _ _ (by omega), cp _ _ _ _ (by omega)]
    exact ⟨b2, b3, b1⟩
  · rw [fω.1 4 (by decide)]; exact u4
  · have hr : r < lRc q.1.2.1 := hr
    obtain ⟨b1, b2, b3, b4⟩ := r7 r hr
    rw [fω.2.2.1 8 (by decide), fω.2.2.1 9 (by decide), fω.2.2.1 10 (by decide), fω.2.2.1 11 (by decide), fω.2.2.1 12 (by decide), u8, u9, u10, u11, u12, cp _ _ _ _ (by omega), cp _ _ _ _ (by omega), cp _ _ _ _ (by omega), cp _ _ _ _ (by omega)]
    refine ⟨b1, b2, b3, b4, fun k hk1 hk2 => ?_⟩
    have hk3 : k < q.1.1.2.2.2.length := by
      have h3 := (hqo.2.2.2.2.2.2 r hr).2.2.2.1
      have hk2 : k < lSt q.1.2.1 r := hk2
      omega
    rw [cp _ _ _ _ (by omega)]
    exact hc.2.2 k hk3
  · unfold xT; rw [fσ.2.2.1 3 (by decide), fσ.2.2.1 4 (by decide), fσ.2.2.2 2 (by decide)]; exact a3.2.2.2.2.1
  · rw [o25, o26, o27, if_neg (m1_ne (by omega))]
  · exact fun s hs => by rw [fσ.2.2.2 7 (by decide), fσ.2.2.2 8 (by decide)]; exact a4 s hs
  · rw [fσ.2.2.1 1 (by decide)]; exact a12
end xd
