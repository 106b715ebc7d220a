/-! the reference reads statements -/
def mRd (μ : zSt) (l : zL) (c : Nat) : Prop := μ.2.2.1 1 0 = nI (lPn l) ∧ μ.2.2.1 9 0 = nI c ∧ μ.2.2.2 1 0 = lN (lBa l) ∧ (∀ p, p < lPn l → μ.2.2.2 0 p = lN (mNa (lNa l p)) ∧ μ.2.2.1 2 p = nI (lPl l p) ∧ μ.2.2.1 3 p = nI (lMo l p)) ∧ μ.2.2.1 4 0 = nI (lRc l) ∧ ∀ r, r < lRc l → μ.2.2.1 5 r = nI (lKi l r) ∧ μ.2.2.1 6 r = nI (lSu l r) ∧ μ.2.2.1 7 r = nI (lTe l r) ∧ μ.2.2.1 8 r = nI (lSt l r)
def mCd (μ : zSt) (c : List Nat) : Prop := μ.1 9 = nI c.length ∧ ∀ k, k < c.length → μ.2.2.1 10 k = nI (gR (c.getD k 0))
def mQ (μ : zSt) (tp : Nat × (Nat → Nat)) (q : zQ) : Prop := mTape μ tp ∧ mPos μ tp q.1.1 q.1.2.1 ∧ mCd μ q.1.2.2.2 ∧ mRd μ q.2.1 q.2.2
def mFs (μ ν : zSt) : Prop := fr [1, 3, 4, 5, 8, 9, 10, 11, 12, 13] [] [1, 2, 3, 4, 5, 6, 7, 8, 9, 10, 11] [0, 1] μ ν ∧ (∀ k, 10 ≤ k → ν.2.2.1 2 k = μ.2.2.1 2 k ∧ ν.2.2.1 3 k = μ.2.2.1 3 k ∧ ν.2.2.2 0 k = μ.2.2.2 0 k) ∧ (∀ k, 20 ≤ k → ν.2.2.1 5 k = μ.2.2.1 5 k ∧ ν.2.2.1 6 k = μ.2.2.1 6 k ∧ ν.2.2.1 7 k = μ.2.2.1 7 k ∧ ν.2.2.1 8 k = μ.2.2.1 8 k) ∧ (∀ k, 900 ≤ k → ν.2.2.1 10 k = μ.2.2.1 10 k) ∧ (∀ k, 1 ≤ k → ν.2.2.1 1 k = μ.2.2.1 1 k ∧ ν.2.2.1 4 k = μ.2.2.1 4 k ∧ ν.2.2.1 9 k = μ.2.2.1 9 k ∧ ν.2.2.2 1 k = μ.2.2.2 1 k)
def mBx (μ : zSt) (e : Nat × Nat) : Prop := mBd μ e ∧ 1 ≤ e.1 ∧ e.1 ≤ 5
def mEs {α : Type} (μ : zSt) (r : Except (Nat × Nat) α) (A : α → zSt → Prop) (F : zSt → Prop) : Prop := (∀ s ν, r = .ok s → mFs μ ν → ν.1 12 = μ.1 12 → A s ν) ∧ (∀ e ν, r = .error e → mFs μ ν → mBx ν e → F ν)
section mx
variable {N : Nat} {Q : zSt → Prop} {tp : Nat × (Nat → Nat)} {μ ν υ : zSt} {s u : zP} {l : zL} {c : Nat} {e : Nat × Nat}
theorem mFs_t (h : mFs μ ν) (h2 : mFs ν υ) : mFs μ υ := by
  obtain ⟨a1, a2, a3, a4, a5⟩ := h
  obtain ⟨b1, b2, b3, b4, b5⟩ := h2
  exact ⟨fr_t a1 b1, fun k hk => ⟨(b2 k hk).1.trans (a2 k hk).1, (b2 k hk).2.1.trans (a2 k hk).2.1, (b2 k hk).2.2.trans (a2 k hk).2.2⟩, fun k hk => ⟨(b3 k hk).1.trans (a3 k hk).1, (b3 k hk).2.1.trans (a3 k hk).2.1, (b3 k hk).2.2.1.trans (a3 k hk).2.2.1, (b3 k hk).2.2.2.trans (a3 k hk).2.2.2⟩, fun k hk => (b4 k hk).trans (a4 k hk), fun k hk => ⟨(b5 k hk).1.trans (a5 k hk).1, (b5 k hk).2.1.trans (a5 k hk).2.1, (b5 k hk).2.2.1.trans (a5 k hk).2.2.1, (b5 k hk).2.2.2.trans (a5 k hk).2.2.2⟩⟩
theorem mFs_m (h : mFr μ ν) : mFs μ ν := by
  obtain ⟨f, g⟩ := h
  refine ⟨fr_w f (subl rfl) (subl rfl) (subl rfl) (subl rfl), fun k _ => ⟨?_, ?_, ?_⟩, fun k _ => ⟨?_, ?_, ?_, ?_⟩, g, fun k _ => ⟨?_, ?_, ?_, ?_⟩⟩
  · rw [f.2.2.1 2 (by decide)]
  · rw [f.2.2.1 3 (by decide)]
  · rw [f.2.2.2 0 (by decide)]
  · rw [f.2.2.1 5 (by decide)]
  · rw [f.2.2.1 6 (by decide)]
  · rw [f.2.2.1 7 (by decide)]
  · rw [f.2.2.1 8 (by decide)]
  · rw [f.2.2.1 1 (by decide)]
  · rw [f.2.2.1 4 (by decide)]
  · rw [f.2.2.1 9 (by decide)]
  · rw [f.2.2.2 1 (by decide)]
theorem mFs_r : mFs μ μ := mFs_m mFr_r
theorem mFs_i {I : List Nat} (h : fr I [] [] [] μ ν) (hI : ∀ k, k ∈ I → k ∈ [1, 3, 4, 5, 8, 9, 10, 11, 13]) : mFs μ ν := mFs_m (mFr_f h hI)
theorem mFs_12 {v : Int32} : mFs μ (zI μ 12 v) := ⟨fr_I fr_r (by decide), fun _ _ => ⟨rfl, rfl, rfl⟩, fun _ _ => ⟨rfl, rfl, rfl, rfl⟩, fun _ _ => rfl, fun _ _ => ⟨rfl, rfl, rfl, rfl⟩⟩
theorem mFs_2 {j : Nat} {v : Int32} (hj : j < 10) : mFs μ (zA μ 2 (upd (μ.2.2.1 2) j v)) := ⟨fr_A fr_r (by decide), fun k hk => ⟨pk_un (by omega), rfl, rfl⟩, fun _ _ => ⟨rfl, rfl, rfl, rfl⟩, fun _ _ => rfl, fun _ _ => ⟨rfl, rfl, rfl, rfl⟩⟩
theorem mFs_3 {j : Nat} {v : Int32} (hj : j < 10) : mFs μ (zA μ 3 (upd (μ.2.2.1 3) j v)) := ⟨fr_A fr_r (by decide), fun k hk => ⟨rfl, pk_un (by omega), rfl⟩, fun _ _ => ⟨rfl, rfl, rfl, rfl⟩, fun _ _ => rfl, fun _ _ => ⟨rfl, rfl, rfl, rfl⟩⟩
theorem mFs_b0 {j : Nat} {v : Int64} (hj : j < 10) : mFs μ (zB μ 0 (vp_updL (μ.2.2.2 0) j v)) := ⟨fr_B fr_r (by decide), fun k hk => ⟨rfl, rfl, pk_uLn (by omega)⟩, fun _ _ => ⟨rfl, rfl, rfl, rfl⟩, fun _ _ => rfl, fun _ _ => ⟨rfl, rfl, rfl, rfl⟩⟩
theorem mFs_b1 {v : Int64} : mFs μ (zB μ 1 (vp_updL (μ.2.2.2 1) 0 v)) := ⟨fr_B fr_r (by decide), fun k hk => ⟨rfl, rfl, rfl⟩, fun _ _ => ⟨rfl, rfl, rfl, rfl⟩, fun _ _ => rfl, fun k hk => ⟨rfl, rfl, rfl, pk_uLn (by omega)⟩⟩
theorem mFs_1 {v : Int32} : mFs μ (zA μ 1 (upd (μ.2.2.1 1) 0 v)) := ⟨fr_A fr_r (by decide), fun k hk => ⟨rfl, rfl, rfl⟩, fun _ _ => ⟨rfl, rfl, rfl, rfl⟩, fun _ _ => rfl, fun k hk => ⟨pk_un (by omega), rfl, rfl, rfl⟩⟩
theorem mFs_4 {v : Int32} : mFs μ (zA μ 4 (upd (μ.2.2.1 4) 0 v)) := ⟨fr_A fr_r (by decide), fun k hk => ⟨rfl, rfl, rfl⟩, fun _ _ => ⟨rfl, rfl, rfl, rfl⟩, fun _ _ => rfl, fun k hk => ⟨rfl, pk_un (by omega), rfl, rfl⟩⟩
theorem mFs_9 {v : Int32} : mFs μ (zA μ 9 (upd (μ.2.2.1 9) 0 v)) := ⟨fr_A fr_r (by decide), fun k hk => ⟨rfl, rfl, rfl⟩, fun _ _ => ⟨rfl, rfl, rfl, rfl⟩, fun _ _ => rfl, fun k hk => ⟨rfl, rfl, pk_un (by omega), rfl⟩⟩
theorem mFs_5 {j : Nat} {v : Int32} (hj : j < 20) : mFs μ (zA μ 5 (upd (μ.2.2.1 5) j v)) := ⟨fr_A fr_r (by decide), fun k hk => ⟨rfl, rfl, rfl⟩, fun k hk => ⟨pk_un (by omega), rfl, rfl, rfl⟩, fun _ _ => rfl, fun k hk => ⟨rfl, rfl, rfl, rfl⟩⟩
theorem mFs_6 {j : Nat} {v : Int32} (hj : j < 20) : mFs μ (zA μ 6 (upd (μ.2.2.1 6) j v)) := ⟨fr_A fr_r (by decide), fun k hk => ⟨rfl, rfl, rfl⟩, fun k hk => ⟨rfl, pk_un (by omega), rfl, rfl⟩, fun _ _ => rfl, fun k hk => ⟨rfl, rfl, rfl, rfl⟩⟩
theorem mFs_7 {j : Nat} {v : Int32} (hj : j < 20) : mFs μ (zA μ 7 (upd (μ.2.2.1 7) j v)) := ⟨fr_A fr_r (by decide), fun k hk => ⟨rfl, rfl, rfl⟩, fun k hk => ⟨rfl, rfl, pk_un (by omega), rfl⟩, fun _ _ => rfl, fun k hk => ⟨rfl, rfl, rfl, rfl⟩⟩
theorem mFs_8 {j : Nat} {v : Int32} (hj : j < 20) : mFs μ (zA μ 8 (upd (μ.2.2.1 8) j v)) := ⟨fr_A fr_r (by decide), fun k hk => ⟨rfl, rfl, rfl⟩, fun k hk => ⟨rfl, rfl, rfl, pk_un (by omega)⟩, fun _ _ => rfl, fun k hk => ⟨rfl, rfl, rfl, rfl⟩⟩
theorem mEs_t {α : Type} {r : Except (Nat × Nat) α} {A : α → zSt → Prop} {F : zSt → Prop} (f : mFs μ ν) (h12 : ν.1 12 = μ.1 12) (h : mEs μ r A F) : mEs ν r A F := ⟨fun s υ e g h2 => h.1 s υ e (mFs_t f g) (h2.trans h12), fun e υ he g => h.2 e υ he (mFs_t f g)⟩
theorem mBx_n (h : mBx μ e) : ¬ μ.1 4 = 0 := by rw [h.1.1]; have := h.2; exact nI_ne0 (by omega) (by omega)
/-- nothing more is read once something failed -/
theorem B_asks {w : Nat} (hb : ¬ μ.1 4 = 0) (hQ : Q μ) : w_X12_asks N w μ Q := by unfold w_X12_asks; exact br_f hb hQ
theorem B_sign {x : Int32} (hb : ¬ μ.1 4 = 0) (hQ : Q μ) : w_X12_asksSign N x μ Q := by unfold w_X12_asksSign; exact br_f hb hQ
theorem B_num {x y : Int32} {G : Int32 → zSt → Prop} (hb : ¬ μ.1 4 = 0) (hQ : G 0 μ) : w_X12_number N x y μ G := by unfold w_X12_number; exact br_f hb hQ
theorem B_told {x : Int32} {G : Int32 → zSt → Prop} (hb : ¬ μ.1 4 = 0) (hQ : G 0 μ) : w_X12_personTold N x μ G := by unfold w_X12_personTold w_X12_name; exact br_f hb (br_f hb hQ)
theorem B_fail {x y : Int32} (hb : ¬ μ.1 4 = 0) (hQ : Q μ) : w_X12_fail N x y μ Q := by unfold w_X12_fail; exact br_f hb hQ
theorem mRd_f {I J A B : List Nat} (f : fr I J A B μ ν) (hA : ∀ k, k ∈ [1, 2, 3, 4, 5, 6, 7, 8, 9] → k ∉ A) (hB : ∀ k, k ∈ [0, 1] → k ∉ B) (h : mRd μ l c) : mRd ν l c := by
  unfold mRd
  rw [f.2.2.1 1 (hA 1 (by decide)), f.2.2.1 2 (hA 2 (by decide)), f.2.2.1 3 (hA 3 (by decide)), f.2.2.1 4 (hA 4 (by decide)), f.2.2.1 5 (hA 5 (by decide)), f.2.2.1 6 (hA 6 (by decide)), f.2.2.1 7 (hA 7 (by decide)), f.2.2.1 8 (hA 8 (by decide)), f.2.2.1 9 (hA 9 (by decide)), f.2.2.2 0 (hB 0 (by decide)), f.2.2.2 1 (hB 1 (by decide))]
  exact h
theorem mCd_f {I J A B : List Nat} {cs : List Nat} (f : fr I J A B μ ν) (hI : 9 ∉ I) (hA : 10 ∉ A) (h : mCd μ cs) : mCd ν cs := by
  unfold mCd; rw [f.1 9 hI, f.2.2.1 10 hA]; exact h
theorem mRd_p (h : mRd μ l c) (hn : lPn l ≤ 10) (ho : ∀ p, p < lPn l → nmOk (lNa l p)) : mPe μ (lPn l) (lNa l) := ⟨hn, h.1, fun p hp => ⟨ho p hp, (h.2.2.2.1 p hp).1⟩⟩
/-- who, something failed -/
theorem B_who {j : Nat} {x2 : Int64} (hj : j < 10) (hb : mBx μ e) (hQ : ∀ ν, mFs μ ν → mBx ν e → Q ν) : b_X12_who_37 N Q (nI j) x2 μ := by
  have hv : vp_in (nI j) 20 := vp_in_nI (by omega) (by decide)
  unfold b_X12_who_37
  rw [nI_clamp (n := j) (by omega)]
  refine ⟨hv, nm_e (B_asks (mBx_n (μ := zB μ 0 _) hb) (B_num (mBx_n (μ := zB μ 0 _) hb) ⟨hv, nm_e ⟨hv, nm_e (nm_e (hQ _ ?_ hb))⟩⟩))⟩
  exact mFs_t (mFs_b0 hj) (mFs_t (mFs_2 hj) (mFs_t (mFs_3 hj) mFs_1))
theorem m_who (hN : 1100 < N) (hq : qOk (s, l, c)) (h : mQ μ tp (s, l, c)) (hn : lPn l < 10) (hC : mEs μ (whP2 tp s l c) (fun q ν => mQ ν tp q → Q ν) Q) : w_X12_who N μ Q := by
  obtain ⟨hT, hP, hCd, hR⟩ := h
  have hP : mPos μ tp s.1 s.2.1 := hP
  have hR : mRd μ l c := hR
  have hCd : mCd μ s.2.2.2 := hCd
  have ho : ∀ p, p < lPn l → nmOk (lNa l p) := hq.2.2.2.1
  have hv : vp_in (nI (lPn l)) 20 := vp_in_nI (by omega) (by decide)
  unfold whP2 at hC
  unfold w_X12_who
  rw [hR.1]
  refine nm_e (m_name hN hT hP (fun v ν1 ev hnm f1 p1 e8 => br_t p1.2.1 ?_) (fun e ν1 he f1 b1 => ?_))
  · rw [ev] at hC
    have hC : mEs μ (if noF (lNa l) (lPn l) v = 99 then whP3 tp (nxP tp s) l c v else .error (3, sT tp s.1)) (fun q ν => mQ ν tp q → Q ν) Q := hC
    have F1 : mFs μ ν1 := mFs_i f1 (subl rfl)
    have hR1 : mRd ν1 l c := mRd_f f1 (notin rfl) (notin rfl) hR
    have hno : noF (lNa l) (lPn l) v < 100 := by
      have := noF_lt (na := lNa l) (v := v) (show lPn l ≤ 10 by omega)
      omega
    have nm : whI (noF (lNa l) (lPn l) v) = (-1 : Int32) ↔ noF (lNa l) (lPn l) v = 99 := whI_i (b := 99) hno (by decide)
    refine m_perOf hN (mRd_p hR1 (by omega) ho) hnm ?_
    rw [nm, e8]
    refine ⟨fun z => ?_, fun z => ?_⟩
    · rw [if_pos z] at hC
      unfold whP3 at hC
      unfold b_X12_who_37
      rw [nI_clamp (n := lPn l) (by omega)]
      refine ⟨hv, nm_e ?_⟩
      have F2 : mFs μ (zB ν1 0 (vp_updL (ν1.2.2.2 0) (lPn l) (lN (mNa v)))) := mFs_t F1 (mFs_b0 hn)
      have T1 : mTape ν1 tp := mTp_f f1 (by decide) (by decide) hT
      have T2 : mTape (zB ν1 0 (vp_updL (ν1.2.2.2 0) (lPn l) (lN (mNa v)))) tp := T1
      refine m_asks (w := 1) hN (by decide) T2 p1 (fun e ν3 f3 b3 => ?_) (fun e ν3 f3 p3 => ?_)
      · have hbx : mBx ν3 (1, sT tp (nxP tp s).1) := ⟨b3, show 1 ≤ 1 ∧ 1 ≤ 5 by decide⟩
        refine B_num (mBx_n hbx) ⟨hv, nm_e ⟨hv, nm_e (nm_e (hC.2 (1, sT tp (nxP tp s).1) _ (by rw [if_neg (show ¬ wS tp (nxP tp s) = 1 from e)]) ?_ hbx))⟩⟩
        exact mFs_t F2 (mFs_t (mFs_i f3 (subl rfl)) (mFs_t (mFs_2 hn) (mFs_t (mFs_3 hn) mFs_1)))
      · rw [if_pos (show wS tp (nxP tp s) = 1 from e)] at hC
        have T3 : mTape ν3 tp := mTp_f f3 (by decide) (by decide) T2
        refine m_number (s := nxP tp (nxP tp s)) (lim := 999) hN (by decide) T3 p3 (fun pl ν4 ep f4 p4 => ?_) (fun e v4 ν4 he f4 b4 => ?_)
        · rw [ep] at hC
          refine ⟨hv, nm_e ⟨hv, nm_e (nm_e ?_)⟩⟩
          have f34 : fr [1, 3] [] [] [] (zB ν1 0 (vp_updL (ν1.2.2.2 0) (lPn l) (lN (mNa v)))) ν4 := fr_t f3 f4
          refine hC.1 (nxP tp (nxP tp (nxP tp s)), adP l v pl, c) _ rfl (mFs_t F2 (mFs_t (mFs_i f34 (subl rfl)) (mFs_t (mFs_2 hn) (mFs_t (mFs_3 hn) mFs_1)))) (show ν4.1 12 = μ.1 12 from (f34.1 12 (by decide)).trans (f1.1 12 (by decide))) ⟨(show mTape ν4 tp from mTp_f f34 (by decide) (by decide) T2), p4, ?_, ?_⟩
          · exact (mCd_f f34 (by decide) (by decide) (show mCd ν1 s.2.2.2 from mCd_f f1 (by decide) (by decide) hCd) : mCd ν4 s.2.2.2)
          · obtain ⟨r1, r2, r3, r4, r5, r6⟩ := hR1
            have g1 : ν4.2.2.1 1 0 = nI (lPn l) := by rw [f34.2.2.1 1 (by decide)]; exact r1
            refine ⟨?_, ?_, ?_, fun p hp => ?_, ?_, fun r hr => ?_⟩
            · show upd (ν4.2.2.1 1) 0 (ν4.2.2.1 1 0 + 1) 0 = nI (lPn l + 1)
              rw [pk_us, g1, nI_1]
            · show ν4.2.2.1 9 0 = nI c
              rw [f34.2.2.1 9 (by decide)]; exact r2
            · show ν4.2.2.2 1 0 = lN (lBa l)
              rw [f34.2.2.2 1 (by decide)]; exact r3
            · have hp : p < lPn l + 1 := hp
              show ν4.2.2.2 0 p = lN (mNa (up1 (lNa l) (lPn l) v p)) ∧ upd (ν4.2.2.1 2) (lPn l) (nI pl) p = nI (up1 (lPl l) (lPn l) pl p) ∧ upd (ν4.2.2.1 3) (lPn l) (9 : Int32) p = nI (up1 (lMo l) (lPn l) 9 p)
              rw [f34.2.2.2 0 (by decide), f34.2.2.1 2 (by decide), f34.2.2.1 3 (by decide)]
              show vp_updL (ν1.2.2.2 0) (lPn l) (lN (mNa v)) p = _ ∧ _
              by_cases q : p = lPn l
              · rw [q, pk_uLs, pk_us, pk_us, up1_s, up1_s, up1_s]; exact ⟨rfl, rfl, rfl⟩
              · rw [pk_uLn q, pk_un q, pk_un q, up1_n q, up1_n q, up1_n q]; exact r4 p (by omega)
            · show ν4.2.2.1 4 0 = _
              rw [f34.2.2.1 4 (by decide)]; exact r5
            · show ν4.2.2.1 5 r = _ ∧ ν4.2.2.1 6 r = _ ∧ ν4.2.2.1 7 r = _ ∧ ν4.2.2.1 8 r = _
              rw [f34.2.2.1 5 (by decide), f34.2.2.1 6 (by decide), f34.2.2.1 7 (by decide), f34.2.2.1 8 (by decide)]
              exact r6 r hr
        · have ge := nuP_g (tp := tp) (s := nxP tp (nxP tp s)) (lim := 999)
          rw [he] at ge
          have ge : 1 ≤ e.1 ∧ e.1 ≤ 5 := ge
          have hbx : mBx ν4 e := ⟨b4, ge⟩
          rw [he] at hC
          refine ⟨hv, nm_e ⟨hv, nm_e (nm_e (hC.2 e _ rfl ?_ hbx))⟩⟩
          exact mFs_t F2 (mFs_t (mFs_i f3 (subl rfl)) (mFs_t (mFs_i f4 (subl rfl)) (mFs_t (mFs_2 hn) (mFs_t (mFs_3 hn) mFs_1))))
    · rw [if_neg z] at hC
      exact m_fl (k := 3) p1.2.1 (fun ν2 f2 b2 => B_who hn ⟨b2, show 1 ≤ 3 ∧ 3 ≤ 5 by decide⟩ (fun ν3 f3 b3 => hC.2 _ ν3 rfl (mFs_t F1 (mFs_t (mFs_i f2 (subl rfl)) f3)) b3))
  · have ge := naP_g (tp := tp) (s := s)
    rw [he] at ge
    have ge : 1 ≤ e.1 ∧ e.1 ≤ 5 := ge
    have hbx : mBx ν1 e := ⟨b1, ge⟩
    rw [he] at hC
    exact br_f (mBx_n hbx) (B_who hn hbx (fun ν3 f3 b3 => hC.2 e ν3 rfl (mFs_t (mFs_i f1 (subl rfl)) f3) b3))
end mx
