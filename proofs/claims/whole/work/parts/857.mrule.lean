/-! the reference reads rules, bars, most -/
section my
variable {N : Nat} {Q : zSt → Prop} {tp : Nat × (Nat → Nat)} {μ ν υ : zSt} {s u : zP} {l : zL} {c : Nat} {e : Nat × Nat}
theorem mBc_x {j : Nat} (h : mBc μ e j) : mBx μ e := ⟨h.1, h.2.1⟩
/-- the end of a rule -/
theorem m_79 {r : Nat} (hr : r < 20) (hQ : Q (zA (zA μ 8 (upd (μ.2.2.1 8) r (μ.1 9))) 4 (upd ((zA μ 8 (upd (μ.2.2.1 8) r (μ.1 9))).2.2.1 4) 0 ((zA μ 8 (upd (μ.2.2.1 8) r (μ.1 9))).2.2.1 4 0 + 1)))) : b_X12_rule_79 N Q (nI r) μ := by
  unfold b_X12_rule_79
  rw [nI_clamp (n := r) (by omega)]
  exact ⟨vp_in_nI (by omega) (by decide), nm_e (nm_e hQ)⟩
theorem B_79 {r : Nat} (hr : r < 20) (hb : mBx μ e) (hQ : ∀ ν, mFs μ ν → mBx ν e → Q ν) : b_X12_rule_79 N Q (nI r) μ := m_79 hr (hQ _ (mFs_t (mFs_8 hr) mFs_4) hb)
theorem B_50 {r : Nat} (hr : r < 20) (hb : mBx μ e) (hQ : ∀ ν, mFs μ ν → mBx ν e → Q ν) : b_X12_rule_50 N Q (nI r) μ := by
  unfold b_X12_rule_50
  rw [nI_clamp (n := r) (by omega)]
  refine ⟨vp_in_nI (by omega) (by decide), nm_e (B_asks (mBx_n (μ := zA μ 7 _) hb) (br_f (mBx_n (μ := zA μ 7 _) hb) (B_79 hr (μ := zA μ 7 _) hb (fun ν f b => hQ ν (mFs_t (mFs_7 hr) f) b))))⟩
theorem m_rule {k : Nat} (hN : 1100 < N) (hq : qOk (s, l, c)) (h : mQ μ tp (s, l, c)) (hn : lRc l < 20) (hC : mEs μ (ruP2 tp k s l c) (fun q ν => mQ ν tp q → Q ν) Q) : w_X12_rule N (nI k) μ Q := by
  obtain ⟨hT, hP, hCd, hR⟩ := h
  have hP : mPos μ tp s.1 s.2.1 := hP
  have hR : mRd μ l c := hR
  have hCd : mCd μ s.2.2.2 := hCd
  have hlen : s.2.2.2.length ≤ s.1 := hq.2.1
  have ho0 : s.2.2.1 = 0 := hq.1
  have ho : ∀ p, p < lPn l → nmOk (lNa l p) := hq.2.2.2.1
  have hn10 : lPn l ≤ 10 := hq.2.2.1.1
  have h8 := hT.1
  have hv : vp_in (nI (lRc l)) 40 := vp_in_nI (by omega) (by decide)
  unfold ruP2 at hC
  unfold w_X12_rule
  rw [hR.2.2.2.2.1]
  refine nm_e ?_
  rw [nI_clamp (n := lRc l) (by omega)]
  refine ⟨hv, nm_e (nm_e (nm_e (nm_e ⟨hv, nm_e (br_t hP.2.1 ?_)⟩)))⟩
  generalize hω : (zA (zI (zI (zI (zA μ 5 (upd (μ.2.2.1 5) (lRc l) (nI k))) 10 (0 : Int32)) 11 (0 : Int32)) 13 (0 : Int32)) 6 _) = ω
  have F0 : mFs μ ω := by
    rw [← hω]
    exact mFs_t (mFs_5 hn) (mFs_t (mFs_i (I := [10, 11, 13]) (fr_I (fr_I (fr_I fr_r (by decide)) (by decide)) (by decide)) (subl rfl)) (mFs_6 hn))
  have w5 : ω.2.2.1 5 = upd (μ.2.2.1 5) (lRc l) (nI k) := by rw [← hω]; rfl
  have w6 : ω.2.2.1 6 = upd (μ.2.2.1 6) (lRc l) (μ.1 9) := by rw [← hω]; rfl
  have fω : fr [10, 11, 13] [] [5, 6] [] μ ω := by rw [← hω]; exact fr_A (fr_I (fr_I (fr_I (fr_A fr_r (by decide)) (by decide)) (by decide)) (by decide)) (by decide)
  have k0 : mK ω tp s [] 0 := by
    refine ⟨mTp_f fω (by decide) (by decide) hT, ⟨hP.1, by rw [fω.1 4 (by decide)]; exact hP.2.1, by rw [fω.1 1 (by decide)]; exact hP.2.2.1, by rw [fω.1 3 (by decide)]; exact hP.2.2.2.1, by rw [fω.1 5 (by decide)]; exact hP.2.2.2.2⟩, ⟨by omega, ?_⟩, ⟨?_, trivial⟩, ?_, mCd_f fω (by decide) (by decide) hCd, by show s.2.2.2.length + 0 ≤ s.1; omega⟩
    · rw [ho0, ← hω]; rfl
    · rw [← hω]; rfl
    · rw [← hω]; rfl
  clear hω
  refine m_sums hN k0 (fun v S' e => (nomatch e)) ⟨fun u ν1 e1 f1 k1 => ?_, fun e ν1 he f1 b1 => ?_⟩
  · rw [e1] at hC
    have hC : mEs μ (if wS tp u = 3 then ruP3 tp k s.2.2.2.length (nxP tp u) l c else .error (1, sT tp u.1)) (fun q ν => mQ ν tp q → Q ν) Q := hC
    have F1 := mFs_t F0 (mFs_m f1)
    unfold b_X12_rule_50
    rw [nI_clamp (n := lRc l) (by omega)]
    refine ⟨hv, nm_e ?_⟩
    have c1 : ν1.1 9 = nI u.2.2.2.length := k1.2.2.2.2.2.1.1
    have k2 : mK (zA ν1 7 (upd (ν1.2.2.1 7) (lRc l) (ν1.1 9))) tp u [] 0 := k1
    have F2 : mFs μ (zA ν1 7 (upd (ν1.2.2.1 7) (lRc l) (ν1.1 9))) := mFs_t F1 (mFs_7 hn)
    refine m_asks (w := 3) hN (by decide) k2.1 k2.2.1 (fun e ν3 f3 b3 => ?_) (fun e ν3 f3 p3 => br_t p3.2.1 ?_)
    · have hbx : mBx ν3 (1, sT tp u.1) := ⟨b3, show 1 ≤ 1 ∧ 1 ≤ 5 by decide⟩
      rw [if_neg (show ¬ wS tp u = 3 from e)] at hC
      exact br_f (mBx_n hbx) (B_79 hn hbx (fun ν4 f4 b4 => hC.2 _ ν4 rfl (mFs_t F2 (mFs_t (mFs_i f3 (subl rfl)) f4)) b4))
    · rw [if_pos (show wS tp u = 3 from e)] at hC
      unfold ruP3 at hC
      have k3 := mK_nx f3 k2 p3
      have F3 := mFs_t F2 (mFs_i f3 (subl rfl))
      have fA : fr [1, 3, 4, 5, 8, 9, 10, 11, 13] [] [5, 6, 7, 10, 11] [] μ ν3 := fr_t (fr_w fω (subl rfl) (subl rfl) (subl rfl) (subl rfl)) (fr_t (fr_w f1.1 (subl rfl) (subl rfl) (subl rfl) (subl rfl)) (fr_t (fr_A (k := 7) fr_r (by decide)) (fr_w f3 (subl rfl) (subl rfl) (subl rfl) (subl rfl))))
      have hpe : mPe ν3 (lPn l) (lNa l) := by
        refine ⟨hn10, by rw [fA.2.2.1 1 (by decide)]; exact hR.1, fun p hp => ⟨ho p hp, by rw [fA.2.2.2 0 (by decide)]; exact (hR.2.2.2.1 p hp).1⟩⟩
      refine m_test hN k3 hpe ⟨fun w ν4 e4 f4 k4 => m_79 hn ?_, fun e ν4 he f4 b4 => ?_⟩
      · rw [e4] at hC
        have c4 : ν4.1 9 = nI w.2.2.2.length := k4.2.2.2.2.2.1.1
        have g5 : ν4.2.2.1 5 = upd (μ.2.2.1 5) (lRc l) (nI k) := by rw [f4.1.2.2.1 5 (by decide), f3.2.2.1 5 (by decide)]; show ν1.2.2.1 5 = _; rw [f1.1.2.2.1 5 (by decide)]; exact w5
        have g6 : ν4.2.2.1 6 = upd (μ.2.2.1 6) (lRc l) (nI s.2.2.2.length) := by rw [f4.1.2.2.1 6 (by decide), f3.2.2.1 6 (by decide)]; show ν1.2.2.1 6 = _; rw [f1.1.2.2.1 6 (by decide), w6, hCd.1]
        have g7 : ν4.2.2.1 7 = upd (μ.2.2.1 7) (lRc l) (nI u.2.2.2.length) := by rw [f4.1.2.2.1 7 (by decide), f3.2.2.1 7 (by decide)]; show upd (ν1.2.2.1 7) (lRc l) (ν1.1 9) = _; rw [f1.1.2.2.1 7 (by decide), fω.2.2.1 7 (by decide), c1]
        have fB : fr [1, 3, 4, 5, 8, 9, 10, 11, 13] [] [5, 6, 7, 10, 11] [] μ ν4 := fr_t fA (fr_w f4.1 (subl rfl) (subl rfl) (subl rfl) (subl rfl))
        refine hC.1 (w, adR l k s.2.2.2.length u.2.2.2.length w.2.2.2.length, c) _ rfl (mFs_t F3 (mFs_t (mFs_m f4) (mFs_t (mFs_8 hn) mFs_4))) (show ν4.1 12 = μ.1 12 from fB.1 12 (by decide)) ⟨k4.1, k4.2.1, k4.2.2.2.2.2.1, ?_⟩
        obtain ⟨r1, r2, r3, r4, r5, r6⟩ := hR
        refine ⟨?_, ?_, ?_, fun p hp => ?_, ?_, fun r hr => ?_⟩
        · show ν4.2.2.1 1 0 = nI (lPn l)
          rw [fB.2.2.1 1 (by decide)]; exact r1
        · show ν4.2.2.1 9 0 = nI c
          rw [fB.2.2.1 9 (by decide)]; exact r2
        · show ν4.2.2.2 1 0 = lN (lBa l)
          rw [fB.2.2.2 1 (by decide)]; exact r3
        · show ν4.2.2.2 0 p = _ ∧ ν4.2.2.1 2 p = _ ∧ ν4.2.2.1 3 p = _
          rw [fB.2.2.2 0 (by decide), fB.2.2.1 2 (by decide), fB.2.2.1 3 (by decide)]; exact r4 p hp
        · show upd (ν4.2.2.1 4) 0 (ν4.2.2.1 4 0 + 1) 0 = nI (lRc l + 1)
          rw [pk_us, fB.2.2.1 4 (by decide), r5, nI_1]
        · have hr : r < lRc l + 1 := hr
          show ν4.2.2.1 5 r = nI (up1 (lKi l) (lRc l) k r) ∧ ν4.2.2.1 6 r = nI (up1 (lSu l) (lRc l) s.2.2.2.length r) ∧ ν4.2.2.1 7 r = nI (up1 (lTe l) (lRc l) u.2.2.2.length r) ∧ upd (ν4.2.2.1 8) (lRc l) (ν4.1 9) r = nI (up1 (lSt l) (lRc l) w.2.2.2.length r)
          rw [g5, g6, g7, c4, fB.2.2.1 8 (by decide)]
          by_cases q : r = lRc l
          · rw [q, pk_us, pk_us, pk_us, pk_us, up1_s, up1_s, up1_s, up1_s]; exact ⟨rfl, rfl, rfl, rfl⟩
          · rw [pk_un q, pk_un q, pk_un q, pk_un q, up1_n q, up1_n q, up1_n q, up1_n q]; exact r6 r (by omega)
      · rw [he] at hC
        exact B_79 hn (mBc_x b4) (fun ν5 f5 b5 => hC.2 e ν5 rfl (mFs_t F3 (mFs_t (mFs_m f4) f5)) b5)
  · rw [he] at hC
    exact B_50 hn (mBc_x b1) (fun ν5 f5 b5 => hC.2 e ν5 rfl (mFs_t F0 (mFs_t (mFs_m f1) f5)) b5)
/-- the end of a statement -/
theorem B_231 (hb : mBx μ e) (hQ : ∀ ν, mFs μ ν → mBx ν e → Q ν) : b_X12_statement_231 N Q μ := by
  unfold b_X12_statement_231
  exact B_sign (mBx_n hb) (nm_e (hQ _ mFs_12 hb))
theorem B_191 (hb : mBx μ e) (hQ : ∀ ν, mFs μ ν → mBx ν e → Q ν) : b_X12_statement_191 N Q μ := by
  unfold b_X12_statement_191
  exact nm_e (B_231 (μ := zA μ 9 _) hb (fun ν f b => hQ ν (mFs_t mFs_9 f) b))
theorem B_156 (hb : mBx μ e) (hQ : ∀ ν, mFs μ ν → mBx ν e → Q ν) : b_X12_statement_156 N Q μ := by
  unfold b_X12_statement_156
  exact B_told (mBx_n hb) (B_told (mBx_n hb) (br_f (mBx_n hb) (B_191 hb hQ)))
/-- a bar; what follows the statement is left to K -/
theorem m_bar (hN : 1100 < N) (hq : qOk (s, l, c)) (h : mQ μ tp (s, l, c)) (hC : mEs μ (baP2 tp s l c) (fun q ν => mQ ν tp q → b_X12_statement_231 N Q ν) Q) : b_X12_statement_156 N Q μ := by
  obtain ⟨hT, hP, hCd, hR⟩ := h
  have hP : mPos μ tp s.1 s.2.1 := hP
  have hR : mRd μ l c := hR
  have hCd : mCd μ s.2.2.2 := hCd
  have ho : ∀ p, p < lPn l → nmOk (lNa l p) := hq.2.2.2.1
  have hn10 : lPn l ≤ 10 := hq.2.2.1.1
  unfold baP2 at hC
  unfold b_X12_statement_156
  refine m_told (but := 99) hN (by decide) hT hP (mRd_p hR hn10 ho) (fun a ν1 ea f1 p1 => ?_) (fun e a ν1 he ha f1 b1 => ?_)
  · rw [ea] at hC
    have hC : mEs μ (bdP (peP tp (lPn l) (lNa l) a (nxP tp s)) fun b => .ok (nxP tp (nxP tp s), adB l (prN a b), c + 1)) (fun q ν => mQ ν tp q → b_X12_statement_231 N Q ν) Q := hC
    have ga := gE_o (peP_k (tp := tp) (s := s) (but := 99) (na := lNa l) hn10) ea
    have ha := ga.1
    have T1 : mTape ν1 tp := mTp_f f1 (by decide) (by decide) hT
    have hR1 : mRd ν1 l c := mRd_f f1 (notin rfl) (notin rfl) hR
    have F1 : mFs μ ν1 := mFs_i f1 (subl rfl)
    rw [show nI a = whI a from (if_neg ga.2.1).symm]
    refine m_told (s := nxP tp s) (but := a) hN (by omega) T1 p1 (mRd_p hR1 hn10 ho) (fun b ν2 eb f2 p2 => br_t p2.2.1 ?_) (fun e b ν2 he hb f2 b2 => ?_)
    · rw [eb] at hC
      have gb := gE_o (peP_k (tp := tp) (s := nxP tp s) (but := a) (na := lNa l) hn10) eb
      have hb := gb.1
      rw [show whI a = nI a from if_neg ga.2.1]
      refine m_pairOf (by omega) (by omega) (nm_e ?_)
      have h64 := prN64 a (by omega) b (by omega)
      have hR2 : mRd ν2 l c := mRd_f f2 (notin rfl) (notin rfl) hR1
      rw [hR2.2.2.1, oneJ (by omega), fb_orL]
      unfold b_X12_statement_191
      refine nm_e (hC.1 (nxP tp (nxP tp s), adB l (prN a b), c + 1) _ rfl (mFs_t F1 (mFs_t (mFs_i f2 (subl rfl)) (mFs_t mFs_b1 mFs_9))) (show ν2.1 12 = μ.1 12 from (f2.1 12 (by decide)).trans (f1.1 12 (by decide))) ⟨(show mTape ν2 tp from mTp_f f2 (by decide) (by decide) T1), p2, ?_, ?_⟩)
      · exact (mCd_f f2 (by decide) (by decide) (mCd_f f1 (by decide) (by decide) hCd) : mCd ν2 s.2.2.2)
      · obtain ⟨r1, r2, r3, r4, r5, r6⟩ := hR2
        refine ⟨r1, ?_, (show vp_updL (ν2.2.2.2 1) 0 (lN (lBa l ||| 2 ^ prN a b)) 0 = lN (lBa l ||| 2 ^ prN a b) from pk_uLs), r4, r5, r6⟩
        show upd (ν2.2.2.1 9) 0 (ν2.2.2.1 9 0 + 1) 0 = nI (c + 1)
        rw [pk_us, r2, nI_1]
    · have ge := peP_g (tp := tp) (s := nxP tp s) (but := a) (na := lNa l) hn10
      rw [he] at ge
      have ge : 1 ≤ e.1 ∧ e.1 ≤ 5 := ge
      have hbx : mBx ν2 e := ⟨b2, ge⟩
      rw [he] at hC
      exact br_f (mBx_n hbx) (B_191 hbx (fun ν3 f3 b3 => hC.2 e ν3 rfl (mFs_t F1 (mFs_t (mFs_i f2 (subl rfl)) f3)) b3))
  · have ge := peP_g (tp := tp) (s := s) (but := 99) (na := lNa l) hn10
    rw [he] at ge
    have ge : 1 ≤ e.1 ∧ e.1 ≤ 5 := ge
    have hbx : mBx ν1 e := ⟨b1, ge⟩
    rw [he] at hC
    exact B_told (mBx_n hbx) (br_f (mBx_n hbx) (B_191 hbx (fun ν3 f3 b3 => hC.2 e ν3 rfl (mFs_t (mFs_i f1 (subl rfl)) f3) b3)))
theorem mFs_a3 {v : Int32} : mFs μ (zA μ 3 (upd (μ.2.2.1 3) 0 v)) := mFs_3 (by decide)
/-- most, behind its word -/
def moP2 (tp : Nat × (Nat → Nat)) (s : zP) (l : zL) (c : Nat) : zF := bdP (peP tp (lPn l) (lNa l) 99 s) fun a => bdP (nuP tp 9 (nxP tp s)) fun v => .ok (nxP tp (nxP tp s), adM l a v, c)
theorem m_most (hN : 1100 < N) (hq : qOk (s, l, c)) (h : mQ μ tp (s, l, c)) (hC : mEs μ (moP2 tp s l c) (fun q ν => mQ ν tp q → b_X12_statement_231 N Q ν) Q) : w_X12_personTold N (-1 : Int32) μ (fun r14 τ15 => w_X12_number N (0 : Int32) (9 : Int32) τ15 (fun r16 τ17 => (vp_in r14 20) ∧ (∀ τ18 : zSt, τ18 = zA τ17 3 (upd (τ17.2.2.1 3) (r14.toNatClampNeg) r16) → b_X12_statement_231 N Q τ18))) := by
  obtain ⟨hT, hP, hCd, hR⟩ := h
  have hP : mPos μ tp s.1 s.2.1 := hP
  have hR : mRd μ l c := hR
  have hCd : mCd μ s.2.2.2 := hCd
  have ho : ∀ p, p < lPn l → nmOk (lNa l p) := hq.2.2.2.1
  have hn10 : lPn l ≤ 10 := hq.2.2.1.1
  unfold moP2 at hC
  refine m_told (but := 99) hN (by decide) hT hP (mRd_p hR hn10 ho) (fun a ν1 ea f1 p1 => ?_) (fun e a ν1 he ha f1 b1 => ?_)
  · rw [ea] at hC
    have hC : mEs μ (bdP (nuP tp 9 (nxP tp s)) fun v => .ok (nxP tp (nxP tp s), adM l a v, c)) (fun q ν => mQ ν tp q → b_X12_statement_231 N Q ν) Q := hC
    have ga := gE_o (peP_k (tp := tp) (s := s) (but := 99) (na := lNa l) hn10) ea
    have ha := ga.1
    have T1 : mTape ν1 tp := mTp_f f1 (by decide) (by decide) hT
    have hR1 : mRd ν1 l c := mRd_f f1 (notin rfl) (notin rfl) hR
    have F1 : mFs μ ν1 := mFs_i f1 (subl rfl)
    rw [nI_clamp (n := a) (by omega)]
    refine m_number (s := nxP tp s) (lim := 9) hN (by decide) T1 p1 (fun v ν2 ev f2 p2 => ⟨vp_in_nI (by omega) (by decide), nm_e ?_⟩) (fun e v ν2 he f2 b2 => ⟨vp_in_nI (by omega) (by decide), nm_e ?_⟩)
    · rw [ev] at hC
      have hR2 : mRd ν2 l c := mRd_f f2 (notin rfl) (notin rfl) hR1
      refine hC.1 (nxP tp (nxP tp s), adM l a v, c) _ rfl (mFs_t F1 (mFs_t (mFs_i f2 (subl rfl)) (mFs_3 (by omega)))) (show ν2.1 12 = μ.1 12 from (f2.1 12 (by decide)).trans (f1.1 12 (by decide))) ⟨(show mTape ν2 tp from mTp_f f2 (by decide) (by decide) T1), p2, ?_, ?_⟩
      · exact (mCd_f f2 (by decide) (by decide) (mCd_f f1 (by decide) (by decide) hCd) : mCd ν2 s.2.2.2)
      · obtain ⟨r1, r2, r3, r4, r5, r6⟩ := hR2
        refine ⟨r1, r2, r3, fun p hp => ⟨(r4 p hp).1, (r4 p hp).2.1, ?_⟩, r5, r6⟩
        show upd (ν2.2.2.1 3) a (nI v) p = nI (up1 (lMo l) a v p)
        by_cases q : p = a
        · rw [q, pk_us, up1_s]
        · rw [pk_un q, up1_n q]; exact (r4 p hp).2.2
    · have ge := nuP_g (tp := tp) (s := nxP tp s) (lim := 9)
      rw [he] at ge
      have ge : 1 ≤ e.1 ∧ e.1 ≤ 5 := ge
      have hbx : mBx ν2 e := ⟨b2, ge⟩
      rw [he] at hC
      exact B_231 (μ := zA ν2 3 _) hbx (fun ν3 f3 b3 => hC.2 e ν3 rfl (mFs_t F1 (mFs_t (mFs_i f2 (subl rfl)) (mFs_t (mFs_3 (by omega)) f3))) b3)
  · have ge := peP_g (tp := tp) (s := s) (but := 99) (na := lNa l) hn10
    rw [he] at ge
    have ge : 1 ≤ e.1 ∧ e.1 ≤ 5 := ge
    have hbx : mBx ν1 e := ⟨b1, ge⟩
    rw [he] at hC
    rw [nI_clamp (n := a) (by omega)]
    exact B_num (mBx_n hbx) ⟨vp_in_nI (by omega) (by decide), nm_e (B_231 (μ := zA ν1 3 _) hbx (fun ν3 f3 b3 => hC.2 e ν3 rfl (mFs_t (mFs_i f1 (subl rfl)) (mFs_t (mFs_3 ha) f3)) b3))⟩
end my
