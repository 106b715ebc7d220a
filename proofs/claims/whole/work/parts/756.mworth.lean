/-! the reference's worths: told anew, or out of the table of few -/
def mE (μ : zSt) (e : Nat → Int32) : Prop := ∀ p, p < 10 → (if nI p = μ.1 16 then μ.1 14 + μ.1 17 else μ.1 14) = e p
def mTb (μ : zSt) (l : zL) (m : Nat) : Prop := ∀ net p, net < m → p < lPn l → μ.2.2.2 3 (5 * net + p) = wv l net p (lPn l)
def mG (μ : zSt) (l : zL) (e : Nat → Int32) : Prop := lPok l ∧ lRok l ∧ mP μ l ∧ mR μ l ∧ mE μ e ∧ (μ.2.1 1 = -1 ∨ ∃ net, net < 2 ^ lPc l ∧ μ.2.1 1 = lN net ∧ mLk μ l net) ∧ (lPn l ≤ 5 → μ.1 19 = 0 ∨ (μ.1 19 = 1 ∧ mTb μ l (2 ^ lPc l)))
def mF (σ τ : zSt) : Prop := fr [15, 18, 19] [1] [12, 13] [2, 3] σ τ
theorem mP_fr {σ τ : zSt} {l : zL} {I J A B : List Nat} (h : fr I J A B σ τ) (hA : ∀ k, k ∈ [1, 2, 3] → k ∉ A) (hB : 1 ∉ B) (hX : mP σ l) : mP τ l := by
  unfold mP
  rw [h.2.2.1 1 (hA 1 (by decide)), h.2.2.1 2 (hA 2 (by decide)), h.2.2.1 3 (hA 3 (by decide)), h.2.2.2 1 hB]
  exact hX
theorem mR_fr {σ τ : zSt} {l : zL} {I J A B : List Nat} (h : fr I J A B σ τ) (hA : ∀ k, k ∈ [4, 5, 6, 7, 8, 10] → k ∉ A) (hX : mR σ l) : mR τ l := by
  unfold mR
  rw [h.2.2.1 4 (hA 4 (by decide)), h.2.2.1 5 (hA 5 (by decide)), h.2.2.1 6 (hA 6 (by decide)), h.2.2.1 7 (hA 7 (by decide)), h.2.2.1 8 (hA 8 (by decide)), h.2.2.1 10 (hA 10 (by decide))]
  exact hX
theorem mE_fr {σ τ : zSt} {e : Nat → Int32} {I J A B : List Nat} (h : fr I J A B σ τ) (hI : ∀ k, k ∈ [14, 16, 17] → k ∉ I) (hX : mE σ e) : mE τ e := by
  unfold mE
  rw [h.1 14 (hI 14 (by decide)), h.1 16 (hI 16 (by decide)), h.1 17 (hI 17 (by decide))]
  exact hX
theorem mLk_fr {σ τ : zSt} {l : zL} {net : Nat} {I J A B : List Nat} (h : fr I J A B σ τ) (hI : 15 ∉ I) (hA : ∀ k, k ∈ [12, 13] → k ∉ A) (hX : mLk σ l net) : mLk τ l net := by
  unfold mLk
  rw [h.2.2.1 12 (hA 12 (by decide)), h.2.2.1 13 (hA 13 (by decide)), h.1 15 hI]
  exact hX
theorem mfc_is {μ : zSt} {l : zL} {net p q : Nat} (hl : lPok l) (hp : p < lPn l) (hq : q < lPn l) (hP : mP μ l) (hL : mLk μ l net) : mfc μ p q = fcv l net p q := by
  obtain ⟨h1, h2, h3⟩ := hL
  have pp := (hP.2.2 p hp).1
  have pq := (hP.2.2 q hq).1
  have bp := (hl.2.1 p hp).1
  have bq := (hl.2.1 q hq).1
  funext k
  unfold mfc fcv
  match k with
  | 0 =>
    show (μ.2.2.1 12 (10 * p + q)).toInt64 = (dv (lPn l) net p q).toInt64
    rw [h1 p q hp hq]
  | 1 =>
    show (if μ.2.2.1 2 (10 + p) ≤ μ.2.2.1 2 (10 + q) then μ.2.2.1 2 (10 + q) - μ.2.2.1 2 (10 + p) else μ.2.2.1 2 (10 + p) - μ.2.2.1 2 (10 + q)).toInt64 = (nI (mil l p q)).toInt64
    rw [pp, pq]
    unfold mil
    by_cases g : lPl l p ≤ lPl l q
    · rw [if_pos g, if_pos (nI_le g (by omega)), pk_sub g]
    · rw [if_neg g, if_neg (nI_ge (by omega) (by omega)), pk_sub (by omega)]
  | 2 =>
    show (μ.2.2.1 13 p).toInt64 = (nI (dg (lPn l) net p)).toInt64
    rw [h2 p hp]
  | 3 =>
    show (μ.2.2.1 13 q).toInt64 = (nI (dg (lPn l) net q)).toInt64
    rw [h2 q hq]
  | k + 4 =>
    show (μ.1 15).toInt64 = (nI (pop net)).toInt64
    rw [h3]
section mw
variable {N : Nat} {μ : zSt} {l : zL}
theorem m_worthTo {net p : Nat} {Q : Int64 → zSt → Prop} (hN : 801 < N) (hl : lPok l) (hr : lRok l) (hp : p < lPn l) (hP : mP μ l) (hR : mR μ l) (hL : mLk μ l net) (hQ : ∀ τ, fr [18] [] [] [2] μ τ → Q (wv l net p (lPn l)) τ) : w_X12_worthTo N (nI p) μ Q := by
  have h10 := hl.1
  refine loopU (S := zSt) (fun f q τ => w_X12_worthTo_5 N Q f (nI p) (wv l net p q) (nI q) τ) (fun q τ => fr [18] [] [] [2] μ τ) (lPn l) ?_ ?_ N 0 μ (Nat.zero_le _) (by omega) fr_r
  · intro f τ h0
    show b_X12_worthTo_5 N (w_X12_worthTo_5 N Q f) Q (nI p) (wv l net p (lPn l)) (nI (lPn l)) τ
    unfold b_X12_worthTo_5
    refine m_many (n := lPn l) (by rw [h0.2.2.1 1 (by decide)]; exact hP.1) (br_t (nI_le (Nat.le_refl _) (by omega)) (hQ τ h0))
  · intro f q τ hq h0 ih
    show b_X12_worthTo_5 N (w_X12_worthTo_5 N Q f) Q (nI p) (wv l net p q) (nI q) τ
    unfold b_X12_worthTo_5
    have hv : vp_in (nI (10 * p + q)) 100 := vp_in_nI (by omega) (by decide)
    have hw : wv l net p (q + 1) = wst l net p q (wv l net p q) := rfl
    have hway : τ.2.2.1 12 (10 * p + q) = dv (lPn l) net p q := by rw [h0.2.2.1 12 (by decide)]; exact hL.1 p q hp hq
    have eq1 : nI q + 1 = nI (q + 1) := nI_1 q
    refine m_many (n := lPn l) (by rw [h0.2.2.1 1 (by decide)]; exact hP.1) ?_
    rw [ix10, nI_clamp (n := 10 * p + q) (by omega), hway, eq1]
    unfold wst at hw
    have hfr : fr [18] [] [] [2] μ τ := h0
    have hmf : ∀ υ, fr [18] [] [] [2] μ υ → mfc υ p q = fcv l net p q := fun υ hυ => mfc_is hl hp hq (mP_fr hυ (notin rfl) (by decide) hP) (mLk_fr hυ (by decide) (notin rfl) hL)
    have hok := fcv_ok (net := net) hl hp hq
    refine br_f (nI_ge hq (by omega)) ⟨fun e => nm_e ?_, fun e => ⟨hv, fun e2 => nm_e ?_, fun e2 => ?_⟩⟩
    · rw [if_pos (Or.inl ((nI_eq (by omega) (by omega)).mp e))] at hw
      rw [← hw]; exact ih τ h0
    · rw [if_pos (Or.inr e2)] at hw
      rw [← hw]; exact ih τ h0
    · rw [if_neg (fun r => r.elim (fun r => e (by rw [r])) e2)] at hw
      refine m_tellsRule (l := l) (kind := 1) hN (by omega) (by omega) (by decide) hr (mR_fr h0 (notin rfl) hR) (by rw [hmf τ h0]; exact hok) (fun υ hυ => nm_e ⟨hv, ?_⟩)
      have h2 := fr_t h0 hυ
      rw [hmf τ h0, show υ.2.2.1 12 (10 * p + q) = dv (lPn l) net p q from (congrFun (h2.2.2.1 12 (by decide)) _).trans (hL.1 p q hp hq)]
      refine ⟨fun e3 => ?_, fun e3 => nm_e ?_⟩
      · rw [if_pos e3] at hw
        refine m_tellsRule (l := l) (kind := 0) hN (by omega) (by omega) (by decide) hr (mR_fr h2 (notin rfl) hR) (by rw [hmf υ h2]; exact hok) (fun ω hω => nm_e (nm_e ?_))
        rw [hmf υ h2]
        have hw2 : wv l net p q + fsum (fcv l net p q) p l 1 (lRc l) 0 - fsum (fcv l net p q) p l 0 (lRc l) 0 = wv l net p (q + 1) := hw.symm
        rw [hw2]
        exact ih ω (fr_t h2 hω)
      · rw [if_neg e3] at hw
        have hw2 : wv l net p q + fsum (fcv l net p q) p l 1 (lRc l) 0 = wv l net p (q + 1) := hw.symm
        rw [hw2]
        exact ih υ h2
theorem m_fills {Q : zSt → Prop} (hN : 1100 < N) (hl : lPok l) (hr : lRok l) (h5 : lPn l ≤ 5) (hP : mP μ l) (hR : mR μ l) (hQ : ∀ τ, mF μ τ → τ.1 19 = 1 → mTb τ l (2 ^ lPc l) → (∃ net, net < 2 ^ lPc l ∧ τ.2.1 1 = lN net ∧ mLk τ l net) → Q τ) : w_X12_fillsTable N μ Q := by
  have hpc : lPc l ≤ 10 := tri_mono (b := 5) h5
  have h2p : 2 ^ lPc l ≤ 1024 := p2le hpc
  have h2q : 0 < 2 ^ lPc l := Nat.two_pow_pos _
  unfold w_X12_fillsTable
  refine nm_e ?_
  refine loopU (S := zSt) (fun f m τ => w_X12_fillsTable_7 N Q f (nI m) τ) (fun m τ => mF μ τ ∧ τ.1 19 = 1 ∧ mTb τ l m ∧ (m = 0 ∨ ∃ net, net < 2 ^ lPc l ∧ τ.2.1 1 = lN net ∧ mLk τ l net)) (2 ^ lPc l) ?_ ?_ N 0 (zI μ 19 1) (Nat.zero_le _) (by omega) ⟨fr_I fr_r (by decide), zI_1s, fun net p h => absurd h (Nat.not_lt_zero _), Or.inl rfl⟩
  · intro f τ ⟨h0, h1, h2, h3⟩
    show b_X12_fillsTable_7 N (w_X12_fillsTable_7 N Q f) Q (nI (2 ^ lPc l)) τ
    unfold b_X12_fillsTable_7
    refine m_pairs (n := lPn l) (by rw [h0.2.2.1 1 (by decide)]; exact hP.1) hl.1 ?_
    have e1 : (1 : Int32) <<< (nI (lPn l * (lPn l - 1) / 2) &&& 31) = nI (2 ^ lPc l) := oneI (by show lPc l < 31; omega)
    rw [e1]
    exact br_t (nI_le (Nat.le_refl _) (by omega)) (hQ τ h0 h1 h2 (h3.resolve_left (by omega)))
  · intro f m τ hm ⟨h0, h1, h2, h3⟩ ih
    show b_X12_fillsTable_7 N (w_X12_fillsTable_7 N Q f) Q (nI m) τ
    unfold b_X12_fillsTable_7
    refine m_pairs (n := lPn l) (by rw [h0.2.2.1 1 (by decide)]; exact hP.1) hl.1 ?_
    have e1 : (1 : Int32) <<< (nI (lPn l * (lPn l - 1) / 2) &&& 31) = nI (2 ^ lPc l) := oneI (by show lPc l < 31; omega)
    rw [e1, nI_l (by omega)]
    refine br_f (nI_ge hm (by omega)) (m_looks (l := l) (by omega) hl.1 (by rw [h0.2.2.1 1 (by decide)]; exact hP.1) (by omega) (fun υ hυ u1 u2 => ?_))
    have f1 : mF μ υ := fr_t h0 (fr_w hυ (subl rfl) (subl rfl) (subl rfl) (subl rfl))
    refine loopU (S := zSt) (fun f p τ => w_X12_fillsTable_25 N (w_X12_fillsTable_7 N Q _) Q f (nI m) (nI p) τ) (fun p τ => mF μ τ ∧ τ.1 19 = 1 ∧ mTb τ l m ∧ (∀ p', p' < p → τ.2.2.2 3 (5 * m + p') = wv l m p' (lPn l)) ∧ τ.2.1 1 = lN m ∧ mLk τ l m) (lPn l) ?_ ?_ N 0 υ (Nat.zero_le _) (by omega) ⟨f1, by rw [hυ.1 19 (by decide)]; exact h1, by unfold mTb; rw [hυ.2.2.2 3 (by decide)]; exact h2, fun p h => absurd h (Nat.not_lt_zero _), u1, u2⟩
    · intro g ω ⟨w0, w1, w2, w3, w4, w5⟩
      show b_X12_fillsTable_25 N (w_X12_fillsTable_7 N Q f) (w_X12_fillsTable_25 N (w_X12_fillsTable_7 N Q f) Q g) Q (nI m) (nI (lPn l)) ω
      unfold b_X12_fillsTable_25
      refine m_many (n := lPn l) (by rw [w0.2.2.1 1 (by decide)]; exact hP.1) (br_t (nI_le (Nat.le_refl _) (by have := hl.1; omega)) (nm_e ?_))
      rw [nI_1]
      refine ih ω ⟨w0, w1, fun net p hn hp => ?_, Or.inr ⟨m, hm, w4, w5⟩⟩
      by_cases q : net = m
      · subst q; exact w3 p hp
      · exact w2 net p (by omega) hp
    · intro g p ω hp ⟨w0, w1, w2, w3, w4, w5⟩ ih2
      show b_X12_fillsTable_25 N (w_X12_fillsTable_7 N Q f) (w_X12_fillsTable_25 N (w_X12_fillsTable_7 N Q f) Q g) Q (nI m) (nI p) ω
      unfold b_X12_fillsTable_25
      refine m_many (n := lPn l) (by rw [w0.2.2.1 1 (by decide)]; exact hP.1) (br_f (nI_ge hp (by omega)) ?_)
      refine m_worthTo (l := l) (net := m) (by omega) hl hr hp (mP_fr w0 (notin rfl) (by decide) hP) (mR_fr w0 (notin rfl) hR) w5 (fun ψ hψ => ?_)
      have e5 : (5 : Int32) * nI m + nI p = nI (5 * m + p) := by rw [li_5, pk_mul, nI_add]
      rw [e5, nI_clamp (n := 5 * m + p) (by omega), nI_1]
      refine ⟨vp_in_nI (by omega) (by decide), nm_e (nm_e (ih2 _ ⟨?_, ?_, ?_, ?_, ?_, ?_⟩))⟩
      · exact fr_B (fr_t w0 (fr_w hψ (subl rfl) (subl rfl) (subl rfl) (subl rfl))) (by decide)
      · exact (hψ.1 19 (by decide)).trans w1
      · intro net q hn hq
        rw [zB_4s, pk_uLn (by omega), hψ.2.2.2 3 (by decide)]
        exact w2 net q hn hq
      · intro q hq
        rw [zB_4s]
        by_cases e : q = p
        · subst e; rw [pk_uLs]
        · rw [pk_uLn (by omega), hψ.2.2.2 3 (by decide)]; exact w3 q (by omega)
      · exact (hψ.2.1 1 (by decide)).trans w4
      · exact mLk_fr (I := [18]) (J := []) (A := []) (B := [2, 3]) (fr_B (fr_w hψ (subl rfl) (subl rfl) (subl rfl) (subl rfl)) (by decide)) (by decide) (notin rfl) w5
end mw
