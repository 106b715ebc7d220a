/-! the class reckons, and keeps what it reckoned -/
/-- the class holds these people -/
def xP (σ : zSt) (l : zL) : Prop := σ.1 1 = nI (lPn l) ∧ σ.1 2 = nI (lPc l) ∧ σ.2.1 2 = lN (lBa l) ∧ ∀ p, p < lPn l → σ.2.2.1 6 p = nI (lPl l p) ∧ σ.2.2.1 7 p = nI (lMo l p) ∧ σ.2.2.1 5 p = nI (lNa l p)
theorem pc_le {l : zL} (h : lPn l ≤ 10) : lPc l ≤ 45 := tri_mono (b := 10) h
theorem net45 {l : zL} {net : Nat} (h : lPn l ≤ 10) (hn : net < 2 ^ lPc l) : net < 2 ^ 45 := Nat.lt_of_lt_of_le hn (Nat.pow_le_pow_right (by decide) (pc_le h))
def rkI (l : zL) (net p : Nat) (τ : zSt) : Prop := τ.2.1 4 = lN net ∧ (∀ q, q < 10 → τ.2.2.1 28 q = nI (nrm net q)) ∧ (∀ b, b < lPn l → τ.2.2.1 29 b = dv (lPn l) net p b) ∧ τ.1 6 = nI p ∧ τ.2.2.1 13 2 = nI (dg (lPn l) net p) ∧ τ.2.2.1 13 4 = nI (pop net)
theorem absI {a b : Nat} (ha : a < 1000) (hb : b < 1000) : (if (0 : Int32) ≤ nI a - nI b then nI a - nI b else 0 - (nI a - nI b)) = nI (if a ≤ b then b - a else a - b) := by
  by_cases h : a ≤ b
  · rw [if_pos h]
    by_cases e : a = b
    · subst e
      rw [pk_sub (Nat.le_refl _), Nat.sub_self]; rfl
    · have hlt : nI a - nI b < 0 := pk_sneg (by omega) (by omega)
      rw [if_neg (fun q => (fa_of_lt hlt).2.1 q)]
      rw [fa_eq, nI_toInt (by omega)]
      have h1 : (nI a - nI b).toInt = (a : Int) - b := pk_sub_toInt (by omega) (by omega)
      have h0 : (0 : Int32).toInt = 0 := by decide
      rw [fb_subI (by omega) (by omega), h1, h0]
      omega
  · rw [if_neg h, pk_sub (by omega), if_pos (show (0 : Int32) ≤ nI (a - b) from nI_le (a := 0) (b := a - b) (Nat.zero_le _) (by omega))]
theorem xR_fr {σ τ : zSt} {l : zL} {I J A B : List Nat} (h : fr I J A B σ τ) (hI : 4 ∉ I) (hA : ∀ k, k ∈ [8, 9, 10, 11, 12] → k ∉ A) (hX : xR σ l) : xR τ l := by
  refine ⟨(h.1 4 hI).trans hX.1, fun r hr => ?_⟩
  obtain ⟨x1, x2, x3, x4, x5⟩ := hX.2 r hr
  rw [h.2.2.1 8 (hA 8 (by decide)), h.2.2.1 9 (hA 9 (by decide)), h.2.2.1 10 (hA 10 (by decide)), h.2.2.1 11 (hA 11 (by decide)), h.2.2.1 12 (hA 12 (by decide))]
  exact ⟨x1, x2, x3, x4, x5⟩
theorem notin {A B : List Nat} (h : (B.all fun k => !A.contains k) = true) : ∀ k, k ∈ B → k ∉ A := fun k hk hA => by
  have := List.all_eq_true.mp h k hk
  simp [hA] at this
section xw
variable {N : Nat} {σ : zSt} {l : zL}
theorem x_rk55 {net p : Nat} {Q : Int64 → zSt → Prop} (hN : 801 < N) (hl : lPok l) (hr : lRok l) (hp : p < lPn l) (hnet : net < 2 ^ lPc l) (hX : xR σ l) (hP : xP σ l) (hQ : ∀ τ, fr [6] [4] [13, 28, 29] [3] σ τ → τ.2.1 4 = lN net → (∀ q, q < 10 → τ.2.2.1 28 q = nI (nrm net q)) → Q (wv l net p (lPn l)) τ) (τ : zSt) (h0 : fr [6] [4] [13, 28, 29] [3] σ τ) (h1 : rkI l net p τ) : w_X10_reckon_55 N Q N (nI p) 0 0 τ := by
  have h10 := hl.1
  have hlt := td_lt hnet
  refine loopU (S := zSt) (fun f q τ => w_X10_reckon_55 N Q f (nI p) (wv l net p q) (nI q) τ) (fun q τ => fr [6] [4] [13, 28, 29] [3] σ τ ∧ rkI l net p τ) (lPn l) ?_ ?_ N 0 τ (Nat.zero_le _) (by omega) ⟨h0, h1⟩
  · intro f τ ⟨h0, h1⟩
    show b_X10_reckon_55 N (w_X10_reckon_55 N Q f) Q (nI p) (wv l net p (lPn l)) (nI (lPn l)) τ
    unfold b_X10_reckon_55
    rw [(h0.1 1 (by decide)).trans hP.1]
    exact br_t (nI_le (Nat.le_refl _) (by omega)) (hQ τ h0 h1.1 h1.2.1)
  · intro f q τ hq ⟨h0, h1⟩ ih
    obtain ⟨i1, i2, i3, i4, i5, i6⟩ := h1
    show b_X10_reckon_55 N (w_X10_reckon_55 N Q f) Q (nI p) (wv l net p q) (nI q) τ
    unfold b_X10_reckon_55
    have hv : vp_in (nI q) 10 := vp_in_nI (by omega) (by decide)
    have hvp : vp_in (nI p) 10 := vp_in_nI (by omega) (by decide)
    have eq1 : nI q + 1 = nI (q + 1) := nI_1 q
    have pp := (hP.2.2.2 p hp).1
    have pq := (hP.2.2.2 q hq).1
    have bp := (hl.2.1 p hp).1
    have bq := (hl.2.1 q hq).1
    have hw : wv l net p (q + 1) = wst l net p q (wv l net p q) := rfl
    rw [(h0.1 1 (by decide)).trans hP.1, nI_clamp (n := q) (by omega), nI_clamp (n := p) (by omega), i3 q hq, eq1]
    refine br_f (nI_ge hq (by omega)) ⟨hv, fun e => nm_e ?_, fun e => ?_⟩
    · have e := (dv_le0 h10 hp).mp e
      rw [wst, if_pos e] at hw
      rw [← hw]
      exact ih τ ⟨h0, i1, i2, i3, i4, i5, i6⟩
    · have e : ¬ (q = p ∨ dv (lPn l) net p q = -1) := fun r => e ((dv_le0 h10 hp).mpr r)
      rw [wst, if_neg e] at hw
      refine ⟨hv, nm_e ⟨hvp, hv, nm_e ⟨hv, ?_⟩⟩⟩
      have a6 : τ.2.2.1 6 = σ.2.2.1 6 := h0.2.2.1 6 (by decide)
      simp only [zA_3s, zA_3n (show (6 : Nat) ≠ 13 by decide), zA_3n (show (28 : Nat) ≠ 13 by decide), a6, pp, pq, i2 q (by omega), absI bp bq]
      refine x_near h10 hlt (nm_e ?_)
      simp only [zA_3s]
      generalize hυ : zA (zA (zA τ 13 (upd (τ.2.2.1 13) 0 (dv (lPn l) net p q))) 13 (upd (upd (τ.2.2.1 13) 0 (dv (lPn l) net p q)) 1 (nI (if lPl l p ≤ lPl l q then lPl l q - lPl l p else lPl l p - lPl l q)))) 13 (upd (upd (upd (τ.2.2.1 13) 0 (dv (lPn l) net p q)) 1 (nI (if lPl l p ≤ lPl l q then lPl l q - lPl l p else lPl l p - lPl l q))) 3 (nI (dg (lPn l) net q))) = υ
      have fυ : fr [6] [4] [13, 28, 29] [3] σ υ := by rw [← hυ]; exact fr_A (fr_A (fr_A h0 (by decide)) (by decide)) (by decide)
      have e13 : υ.2.2.1 13 = upd (upd (upd (τ.2.2.1 13) 0 (dv (lPn l) net p q)) 1 (nI (mil l p q))) 3 (nI (dg (lPn l) net q)) := by rw [← hυ]; exact zA_3s
      have e28 : υ.2.2.1 28 = τ.2.2.1 28 := by rw [← hυ]; rfl
      have e29 : υ.2.2.1 29 = τ.2.2.1 29 := by rw [← hυ]; rfl
      have e4 : υ.2.1 4 = τ.2.1 4 := by rw [← hυ]; rfl
      have e6 : υ.1 6 = τ.1 6 := by rw [← hυ]; rfl
      clear hυ
      have hfc : xfc υ = fcv l net p q := by
        funext k
        unfold xfc fcv
        rw [e13]
        match k with
        | 0 => rfl
        | 1 => rfl
        | 2 =>
          show (τ.2.2.1 13 2).toInt64 = _
          rw [i5]; rfl
        | 3 => rfl
        | k + 4 =>
          have e : (if k + 4 < 5 then k + 4 else 4) = 4 := by
            by_cases q : k + 4 < 5
            · rw [if_pos q]; omega
            · rw [if_neg q]
          rw [e]
          show (τ.2.2.1 13 4).toInt64 = _
          rw [i6]; rfl
      have hok := fcv_ok (net := net) hl hp hq
      have rk2 : ∀ ω, fr [] [] [] [3] υ ω → fr [6] [4] [13, 28, 29] [3] σ ω ∧ rkI l net p ω := fun ω hω => ⟨fr_t fυ (fr_w hω (by simp) (by simp) (by simp) (fun k h => h)), by
        refine ⟨?_, ?_, ?_, ?_, ?_, ?_⟩
        · rw [hω.2.1 4 (by decide), e4, i1]
        · rw [hω.2.2.1 28 (by decide), e28]; exact i2
        · rw [hω.2.2.1 29 (by decide), e29]; exact i3
        · rw [hω.1 6 (by decide), e6, i4]
        · rw [hω.2.2.1 13 (by decide), e13]; exact i5
        · rw [hω.2.2.1 13 (by decide), e13]; exact i6⟩
      have xRυ : xR υ l := xR_fr fυ (by decide) (notin rfl) hX
      refine x_firstSum (kind := 1) (me := p) hN (by decide) hr xRυ (by rw [hfc]; exact hok) (by omega) (e6.trans i4) (fun ω hω => nm_e ?_)
      obtain ⟨fω, j1, j2, j3, j4, j5, j6⟩ := rk2 ω hω
      rw [hfc, j3 q hq]
      refine ⟨hv, fun e1 => ?_, fun e1 => ?_⟩
      · have xRω : xR ω l := xR_fr fω (by decide) (notin rfl) hX
        have hfc2 : xfc ω = fcv l net p q := by
          rw [← hfc]; unfold xfc; rw [hω.2.2.1 13 (by decide)]
        refine x_firstSum (kind := 0) (me := p) hN (by decide) hr xRω (by rw [hfc2]; exact hok) (by omega) j4 (fun ψ hψ => nm_e (nm_e ?_))
        rw [hfc2]
        rw [if_pos e1] at hw
        have hw2 : wv l net p q + fsum (fcv l net p q) p l 1 (lRc l) 0 - fsum (fcv l net p q) p l 0 (lRc l) 0 = wv l net p (q + 1) := hw.symm
        rw [hw2]
        exact ih ψ (rk2 ψ (fr_t hω hψ))
      · rw [if_neg e1] at hw
        have hw2 : wv l net p q + fsum (fcv l net p q) p l 1 (lRc l) 0 = wv l net p (q + 1) := hw.symm
        rw [hw2, Int64.sub_zero]
        exact nm_e (nm_e (ih ω ⟨fω, j1, j2, j3, j4, j5, j6⟩))
theorem x_reckon {net p : Nat} {Q : Int64 → zSt → Prop} (hN : 801 < N) (hl : lPok l) (hr : lRok l) (hp : p < lPn l) (hnet : net < 2 ^ lPc l) (hX : xR σ l) (hP : xP σ l) (hT : xT σ) (hD : xD σ) (hQ : ∀ τ, fr [6] [4] [13, 28, 29] [3] σ τ → xD τ → Q (wv l net p (lPn l)) τ) : w_X10_reckon N (lN net) (nI p) σ Q := by
  have h10 := hl.1
  have h45 := net45 h10 hnet
  have hlt := td_lt hnet
  unfold w_X10_reckon
  refine x_lay (pc := lPc l) (by omega) (pc_le h10) hnet hP.2.1 hT hD (fun τ f1 a1 a2 => ?_)
  refine x_spread (n := lPn l) (by omega) h10 hp ((f1.1 1 (by decide)).trans hP.1) hlt a2 (fun υ f2 b1 => nm_e ⟨vp_in_nI (by omega) (by decide), ?_⟩)
  have c28 : υ.2.2.1 28 p = nI (nrm net p) := by rw [f2.2.2.1 28 (by decide)]; exact a2 p (by omega)
  rw [nI_clamp (n := p) (by omega)]
  simp only [zI_2, c28]
  refine x_near h10 hlt (nm_e ?_)
  refine pcL (by omega) (nm_e ?_)
  rw [pop_64 h45]
  refine x_rk55 hN hl hr hp hnet hX hP (fun τ g1 g2 g3 => hQ τ g1 (Or.inr ⟨net, h45, g2, g3⟩)) _ (fr_A (fr_A (fr_I (fr_t (fr_w f1 (subl rfl) (subl rfl) (subl rfl) (subl rfl)) (fr_w f2 (subl rfl) (subl rfl) (subl rfl) (subl rfl))) (by decide)) (by decide)) (by decide)) ⟨?_, ?_, ?_, ?_, ?_, ?_⟩
  · exact (f2.2.1 4 (by decide)).trans a1
  · exact fun q hq => (congrFun (f2.2.2.1 28 (by decide)) q).trans (a2 q hq)
  · exact b1
  · rfl
  · rfl
  · rfl
end xw
