/-! the reference reads one statement, all of them -/
section mz
variable {N : Nat} {Q : zSt → Prop} {tp : Nat × (Nat → Nat)} {μ ν υ : zSt} {s u : zP} {l : zL} {c m : Nat} {q : zQ} {e : Nat × Nat}
theorem sg59 : sgn 59 := ⟨by decide, by decide, by decide⟩
theorem mQ_mv {p : Nat} {g : Bool} (f : fr [1, 3] [] [] [] μ ν) (h : mQ μ tp (s, l, c)) (p1 : mPos ν tp p g) : mQ ν tp ((p, g, s.2.2.1, s.2.2.2), l, c) := ⟨mTp_f f (by decide) (by decide) h.1, p1, mCd_f f (by decide) (by decide) h.2.2.1, mRd_f f (notin rfl) (notin rfl) h.2.2.2⟩
theorem mQ_nx (f : fr [1, 3] [] [] [] μ ν) (h : mQ μ tp (s, l, c)) (p1 : mPos ν tp (nxP tp s).1 (nxP tp s).2.1) : mQ ν tp (nxP tp s, l, c) := mQ_mv f h p1
theorem mQ_lk (f : fr [1] [] [] [] μ ν) (h : mQ μ tp (s, l, c)) (p1 : mPos ν tp s.1 s.2.1) : mQ ν tp (s, l, c) := mQ_mv (f1_13 f) h p1
theorem qOk_nx (h8 : tp.1 ≤ 800) (hk : ¬ kS tp s = 0) (h : qOk (s, l, c)) : qOk (nxP tp s, l, c) := by
  obtain ⟨a1, a2, a3, a4, a5, a6⟩ := h
  have n1 := nx_gt h8 hk
  have a2 : s.2.2.2.length ≤ s.1 := a2
  exact ⟨a1, by show s.2.2.2.length ≤ (nxP tp s).1; omega, a3, a4, a5, a6⟩
/-- its end: a semicolon -/
theorem m_231 (hN : 1100 < N) (h : mQ μ tp (s, l, c)) (h12 : μ.1 12 = nI m) (h1 : iS tp 59 s = true → ∀ ν, mFs μ ν → mQ ν tp (nxP tp s, l, c) → ν.1 12 = nI (m + 1) → Q ν) (h2 : iS tp 59 s = false → ∀ ν, mFs μ ν → mBx ν (1, sT tp s.1) → Q ν) : b_X12_statement_231 N Q μ := by
  unfold b_X12_statement_231
  refine m_asksSign (c := 59) hN sg59 h.1 h.2.1 (fun e ν1 f1 b1 => nm_e ?_) (fun e ν1 f1 p1 => nm_e ?_)
  · exact h2 e _ (mFs_t (mFs_i f1 (subl rfl)) mFs_12) ⟨b1, show 1 ≤ 1 ∧ 1 ≤ 5 by decide⟩
  · refine h1 e _ (mFs_t (mFs_i f1 (subl rfl)) mFs_12) (show mQ ν1 tp (nxP tp s, l, c) from mQ_nx (f1_13 f1) h p1) ?_
    show ν1.1 12 + 1 = nI (m + 1)
    rw [f1.1 12 (by decide), h12, nI_1]
theorem m_stmt (hN : 1100 < N) (hq : qOk (s, l, c)) (h : mQ μ tp (s, l, c)) (hk : ¬ kS tp s = 0) (h12 : μ.1 12 = nI m) (h1 : ∀ q' ν, stP tp (s, l, c) = .ok q' → mFs μ ν → mQ ν tp q' → ν.1 12 = nI (m + 1) → Q ν) (h2 : ∀ e ν, stP tp (s, l, c) = .error e → mFs μ ν → mBx ν e → Q ν) : w_X12_statement N μ Q := by
  have h8 := h.1.1
  have hle : s.1 ≤ tp.1 := h.2.1.1
  have hsl := sT_le hle
  have hn10 : lPn l ≤ 10 := hq.2.2.1.1
  have hrc : lRc l ≤ 20 := hq.2.2.2.2.2.1
  have hc20 : c ≤ 20 := hq.2.2.2.2.1
  -- what follows
  have bad : ∀ e ν, stP1 tp (s, l, c) = .error e → mFs μ ν → mBx ν e → Q ν := fun e ν he f b => h2 e ν (by unfold stP; rw [he]; rfl) f b
  have fin : ∀ q' ν, stP1 tp (s, l, c) = .ok q' → mFs μ ν → ν.1 12 = μ.1 12 → mQ ν tp q' → b_X12_statement_231 N Q ν := fun q' ν e f g k => by
    obtain ⟨s', l', c'⟩ := q'
    refine m_231 (m := m) hN k (g.trans h12) (fun hi υ f2 k2 g2 => ?_) (fun hi υ f2 b2 => ?_)
    · refine h1 (nxP tp s', l', c') υ ?_ (mFs_t f f2) k2 g2
      unfold stP; rw [e]; show bdP (tsP tp 59 s') _ = _
      unfold tsP; rw [if_pos hi]; rfl
    · refine h2 (1, sT tp s'.1) υ ?_ (mFs_t f f2) b2
      unfold stP; rw [e]; show bdP (tsP tp 59 s') _ = _
      unfold tsP; rw [if_neg (by rw [hi]; decide)]; rfl
  have bad231 : ∀ e ν, stP1 tp (s, l, c) = .error e → mFs μ ν → mBx ν e → b_X12_statement_231 N Q ν := fun e ν he f b => B_231 b (fun υ f2 b2 => bad e υ he (mFs_t f f2) b2)
  have nxt := qOk_nx h8 hk hq
  unfold w_X12_statement
  refine m_look hN h.1 h.2.1 (fun ν1 f1 a1 p1 => nm_e ?_)
  have k1 := mQ_lk f1 h p1
  have F1 : mFs μ ν1 := mFs_i f1 (subl rfl)
  have g1 : ν1.1 12 = μ.1 12 := f1.1 12 (by decide)
  have a1' : ν1.1 1 = nI (sT tp s.1) := a1
  rw [a1']
  refine m_takes (w := 0) hN (by decide) k1.1 k1.2.1 (fun e0 ν2 f2 _ p2 => br_t rfl ?_) (fun e0 ν2 f2 p2 => br_f (by decide) ?_)
  · have e0 : ¬ wS tp s = 0 := e0
    have k2 := mQ_lk f2 k1 p2
    have F2 := mFs_t F1 (mFs_i f2 (subl rfl))
    have g2 : ν2.1 12 = μ.1 12 := (f2.1 12 (by decide)).trans g1
    -- a rule
    have rule : (wS tp s = 2 ∨ wS tp s = 4) → ∀ ν, mFs μ ν → ν.1 12 = μ.1 12 → mQ ν tp (s, l, c) → b_X12_statement_70 N Q (nI (sT tp s.1)) ν := fun hw ν F g k => by
      have b100 : ∀ kd : Nat, (kd = 0 ∧ wS tp s = 2 ∨ kd = 1 ∧ wS tp s = 4) → ∀ υ, mFs μ υ → υ.1 12 = μ.1 12 → mQ υ tp (nxP tp s, l, c) → b_X12_statement_100 N Q (nI (sT tp s.1)) (nI kd) υ := fun kd hkd υ F g k => by
        have est : stP1 tp (s, l, c) = ruP tp kd s l c := by
          unfold stP1
          rcases hkd with ⟨z1, z2⟩ | ⟨z1, z2⟩
          · rw [if_neg (show ¬ wS tp (s, l, c).1 = 0 from e0), if_pos (show wS tp (s, l, c).1 = 2 from z2), z1]
          · rw [if_neg (show ¬ wS tp (s, l, c).1 = 0 from e0), if_neg (show ¬ wS tp (s, l, c).1 = 2 by show ¬ wS tp s = 2; omega), if_pos (show wS tp (s, l, c).1 = 4 from z2), z1]
        have r0 : υ.2.2.1 4 0 = nI (lRc l) := k.2.2.2.2.2.2.2.1
        have n20 : nI (lRc l) = (20 : Int32) ↔ lRc l = 20 := nI_eq (b := 20) (by omega) (by decide)
        unfold b_X12_statement_100 b_X12_statement_125
        rw [r0, n20]
        refine ⟨fun z => ?_, fun z => ?_⟩
        · have ee : stP1 tp (s, l, c) = .error (5, sT tp s.1) := by rw [est]; unfold ruP; rw [if_neg (by omega)]
          exact m_fl (k := 5) k.2.1.2.1 (fun ω f3 b3 => bad231 _ ω ee (mFs_t F (mFs_i f3 (subl rfl))) ⟨b3, show 1 ≤ 5 ∧ 5 ≤ 5 by decide⟩)
        · have ee : stP1 tp (s, l, c) = ruP2 tp kd (nxP tp s) l c := by rw [est]; unfold ruP; rw [if_pos (by omega)]
          exact m_rule hN nxt k (by omega) ⟨fun q' ω e3 f3 g3 k3 => fin q' ω (ee.trans e3) (mFs_t F f3) (g3.trans g) k3, fun e3 ω he f3 b3 => bad231 e3 ω (ee.trans he) (mFs_t F f3) b3⟩
      unfold b_X12_statement_70 b_X12_statement_86
      refine m_takes (w := 2) hN (by decide) k.1 k.2.1 (fun e2 ω f3 _ p3 => br_t rfl (br_t rfl ?_)) (fun e2 ω f3 p3 => br_f (by decide) (br_f (by decide) (b100 0 (Or.inl ⟨rfl, e2⟩) ω (mFs_t F (mFs_i f3 (subl rfl))) ((f3.1 12 (by decide)).trans g) (mQ_nx f3 k p3))))
      have e2 : ¬ wS tp s = 2 := e2
      have k3 := mQ_lk f3 k p3
      refine m_asks (w := 4) hN (by decide) k3.1 k3.2.1 (fun e4 => absurd (show wS tp s = 4 by omega) e4) (fun e4 ω2 f4 p4 => ?_)
      exact b100 1 (Or.inr ⟨rfl, e4⟩) ω2 (mFs_t F (mFs_t (mFs_i f3 (subl rfl)) (mFs_i f4 (subl rfl)))) ((f4.1 12 (by decide)).trans ((f3.1 12 (by decide)).trans g)) (mQ_nx f4 k3 p4)
    refine m_isHere (w := 2) hN (by decide) k2.1 k2.2.1 (fun ν3 f3 _ p3 => ⟨fun z2 => ?_, fun z2 => ?_⟩)
    · have z2 : ¬ wS tp s = 2 := of_decide_eq_false (b32_0.mp z2)
      have k3 := mQ_lk f3 k2 p3
      have F3 := mFs_t F2 (mFs_i f3 (subl rfl))
      have g3 : ν3.1 12 = μ.1 12 := (f3.1 12 (by decide)).trans g2
      refine m_isHere (w := 4) hN (by decide) k3.1 k3.2.1 (fun ν4 f4 _ p4 => ⟨fun z4 => ?_, fun z4 => ?_⟩)
      · have z4 : ¬ wS tp s = 4 := of_decide_eq_false (b32_0.mp z4)
        have k4 := mQ_lk f4 k3 p4
        have F4 := mFs_t F3 (mFs_i f4 (subl rfl))
        have g4 : ν4.1 12 = μ.1 12 := (f4.1 12 (by decide)).trans g3
        refine m_takes (w := 5) hN (by decide) k4.1 k4.2.1 (fun e5 ν5 f5 _ p5 => br_t rfl ?_) (fun e5 ν5 f5 p5 => br_f (by decide) ?_)
        · have e5 : ¬ wS tp s = 5 := e5
          have k5 := mQ_lk f5 k4 p5
          have F5 := mFs_t F4 (mFs_i f5 (subl rfl))
          have g5 : ν5.1 12 = μ.1 12 := (f5.1 12 (by decide)).trans g4
          refine m_asks (w := 6) hN (by decide) k5.1 k5.2.1 (fun e6 ν6 f6 b6 => ?_) (fun e6 ν6 f6 p6 => ?_)
          · have e6 : ¬ wS tp s = 6 := e6
            have ee : stP1 tp (s, l, c) = .error (1, sT tp s.1) := by
              unfold stP1
              rw [if_neg (show ¬ wS tp (s, l, c).1 = 0 from e0), if_neg (show ¬ wS tp (s, l, c).1 = 2 from z2), if_neg (show ¬ wS tp (s, l, c).1 = 4 from z4), if_neg (show ¬ wS tp (s, l, c).1 = 5 from e5), if_neg (show ¬ wS tp (s, l, c).1 = 6 from e6)]
            have hbx : mBx ν6 (1, sT tp s.1) := ⟨b6, show 1 ≤ 1 ∧ 1 ≤ 5 by decide⟩
            refine B_told (mBx_n hbx) (B_num (mBx_n hbx) ⟨vp_in_nI (n := 0) (by decide) (by decide), nm_e ?_⟩)
            exact bad231 _ _ ee (mFs_t F5 (mFs_t (mFs_i f6 (subl rfl)) mFs_a3)) hbx
          · have e6 : wS tp s = 6 := e6
            have ee : stP1 tp (s, l, c) = moP2 tp (nxP tp s) l c := by
              unfold stP1
              rw [if_neg (show ¬ wS tp (s, l, c).1 = 0 from e0), if_neg (show ¬ wS tp (s, l, c).1 = 2 from z2), if_neg (show ¬ wS tp (s, l, c).1 = 4 from z4), if_neg (show ¬ wS tp (s, l, c).1 = 5 from e5), if_pos (show wS tp (s, l, c).1 = 6 from e6)]
              rfl
            have F6 := mFs_t F5 (mFs_i f6 (subl rfl))
            have g6 : ν6.1 12 = μ.1 12 := (f6.1 12 (by decide)).trans g5
            exact m_most hN nxt (mQ_nx f6 k5 p6) ⟨fun q' ω e7 f7 g7 k7 => fin q' ω (ee.trans e7) (mFs_t F6 f7) (g7.trans g6) k7, fun e7 ω he f7 b7 => bad e7 ω (ee.trans he) (mFs_t F6 f7) b7⟩
        · have e5 : wS tp s = 5 := e5
          have k5 := mQ_nx f5 k4 p5
          have F5 := mFs_t F4 (mFs_i f5 (subl rfl))
          have g5 : ν5.1 12 = μ.1 12 := (f5.1 12 (by decide)).trans g4
          have est : stP1 tp (s, l, c) = baP tp s l c := by
            unfold stP1
            rw [if_neg (show ¬ wS tp (s, l, c).1 = 0 from e0), if_neg (show ¬ wS tp (s, l, c).1 = 2 from z2), if_neg (show ¬ wS tp (s, l, c).1 = 4 from z4), if_pos (show wS tp (s, l, c).1 = 5 from e5)]
          have r0 : ν5.2.2.1 9 0 = nI c := k5.2.2.2.2.1
          have n20 : nI c = (20 : Int32) ↔ c = 20 := nI_eq (b := 20) (by omega) (by decide)
          rw [r0, n20]
          refine ⟨fun z => ?_, fun z => ?_⟩
          · have ee : stP1 tp (s, l, c) = .error (5, sT tp s.1) := by rw [est]; unfold baP; rw [if_neg (by omega)]
            exact m_fl (k := 5) k5.2.1.2.1 (fun ω f6 b6 => B_156 ⟨b6, show 1 ≤ 5 ∧ 5 ≤ 5 by decide⟩ (fun ω2 f7 b7 => bad _ ω2 ee (mFs_t F5 (mFs_t (mFs_i f6 (subl rfl)) f7)) b7))
          · have ee : stP1 tp (s, l, c) = baP2 tp (nxP tp s) l c := by rw [est]; unfold baP; rw [if_pos (by omega)]
            exact m_bar hN nxt k5 ⟨fun q' ω e7 f7 g7 k7 => fin q' ω (ee.trans e7) (mFs_t F5 f7) (g7.trans g5) k7, fun e7 ω he f7 b7 => bad e7 ω (ee.trans he) (mFs_t F5 f7) b7⟩
      · exact rule (Or.inr (of_decide_eq_true (b32_n.mp z4))) ν4 (mFs_t F3 (mFs_i f4 (subl rfl))) ((f4.1 12 (by decide)).trans g3) (mQ_lk f4 k3 p4)
    · exact rule (Or.inl (of_decide_eq_true (b32_n.mp z2))) ν3 (mFs_t F2 (mFs_i f3 (subl rfl))) ((f3.1 12 (by decide)).trans g2) (mQ_lk f3 k2 p3)
  · have e0 : wS tp s = 0 := e0
    have k2 := mQ_nx f2 k1 p2
    have F2 := mFs_t F1 (mFs_i f2 (subl rfl))
    have g2 : ν2.1 12 = μ.1 12 := (f2.1 12 (by decide)).trans g1
    have est : stP1 tp (s, l, c) = whP tp s l c := by unfold stP1; rw [if_pos (show wS tp (s, l, c).1 = 0 from e0)]
    have r0 : ν2.2.2.1 1 0 = nI (lPn l) := k2.2.2.2.1
    have n10 : nI (lPn l) = (10 : Int32) ↔ lPn l = 10 := nI_eq (b := 10) (by omega) (by decide)
    rw [r0, n10]
    refine ⟨fun z => ?_, fun z => ?_⟩
    · have ee : stP1 tp (s, l, c) = .error (5, sT tp s.1) := by rw [est]; unfold whP; rw [if_neg (by omega)]
      exact m_fl (k := 5) k2.2.1.2.1 (fun ω f3 b3 => bad231 _ ω ee (mFs_t F2 (mFs_i f3 (subl rfl))) ⟨b3, show 1 ≤ 5 ∧ 5 ≤ 5 by decide⟩)
    · have ee : stP1 tp (s, l, c) = whP2 tp (nxP tp s) l c := by rw [est]; unfold whP; rw [if_pos (by omega)]
      exact m_who hN nxt k2 (by omega) ⟨fun q' ω e3 f3 g3 k3 => fin q' ω (ee.trans e3) (mFs_t F2 f3) (g3.trans g2) k3, fun e3 ω he f3 b3 => bad231 e3 ω (ee.trans he) (mFs_t F2 f3) b3⟩
/-- all statements -/
theorem m_71 {Q : Int32 → zSt → Prop} (hN : 1100 < N) : ∀ (f' f m : Nat) (μ : zSt) (q : zQ), m + f' = 801 → f' < f → m ≤ q.1.1 → mQ μ tp q → qOk q → μ.1 12 = nI m → (∀ r ν, laL tp f' m q = .ok r → mFs μ ν → mQ ν tp r.1 → ν.1 12 = nI r.2 → b_X12_land_93 N Q ν) → (∀ e ν, laL tp f' m q = .error e → mFs μ ν → mBx ν e → b_X12_land_93 N Q ν) → w_X12_land_71 N Q f μ
  | 0, f, m, μ, q, h1, h2, h3, hx, hq, h12, hA, hB => by
    have := hx.2.1.1
    have := hx.1.1
    omega
  | f' + 1, 0, m, μ, q, h1, h2, h3, hx, hq, h12, hA, hB => absurd h2 (Nat.not_lt_zero _)
  | f' + 1, f + 1, m, μ, q, h1, h2, h3, hx, hq, h12, hA, hB => by
    obtain ⟨s, l, c⟩ := q
    have h8 := hx.1.1
    have hb8 := mTp_b hx.1
    have hP : mPos μ tp s.1 s.2.1 := hx.2.1
    have h3 : m ≤ s.1 := h3
    rw [laL] at hA hB
    show b_X12_land_71 N (w_X12_land_71 N Q f) Q μ
    unfold b_X12_land_71
    refine br_t hP.2.1 (m_look hN hx.1 hP (fun ν1 f1 a1 p1 => ?_))
    have k1 := mQ_lk f1 hx p1
    have F1 : mFs μ ν1 := mFs_i f1 (subl rfl)
    have g1 : ν1.1 12 = nI m := (f1.1 12 (by decide)).trans h12
    rw [chI_e hb8]
    refine ⟨fun z => ?_, fun z => ?_⟩
    · have hk : kS tp s = 0 := by
        show kT tp s.1 s.2.1 = 0
        rw [kT_U0]; exact kU_e z
      exact hA ((s, l, c), m) ν1 (by rw [if_pos hk]) F1 k1 g1
    · have hk : ¬ kS tp s = 0 := fun e => z (kT_0 e)
      rw [if_neg (show ¬ kS tp (s, l, c).1 = 0 from hk)] at hA hB
      have hlt := kT_n0 hk
      have hge := sT_ge tp s.1
      refine m_stmt hN hq k1 hk g1 (fun q' ν2 e2 f2 k2 g2 => ?_) (fun e ν2 he f2 b2 => ?_)
      · rw [e2] at hA hB
        have gq := gE_o (stP_g h8 hq hk) e2
        have gq1 : s.1 < q'.1.1 := gq.1
        exact m_71 hN f' f (m + 1) ν2 q' (by omega) (by omega) (by omega) k2 gq.2 g2 (fun r ν3 e3 f3 k3 g3 => hA r ν3 e3 (mFs_t F1 (mFs_t f2 f3)) k3 g3) (fun e ν3 he f3 b3 => hB e ν3 he (mFs_t F1 (mFs_t f2 f3)) b3)
      · rw [he] at hB
        have h93 := hB e ν2 rfl (mFs_t F1 f2) b2
        obtain ⟨f5, rfl⟩ : ∃ f5, f = f5 + 1 := ⟨f - 1, by omega⟩
        show b_X12_land_71 N (w_X12_land_71 N Q f5) Q ν2
        unfold b_X12_land_71
        exact br_f (mBx_n b2) h93
end mz
