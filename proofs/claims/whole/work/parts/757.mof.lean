/-! the reference's worth of a net to a person, and in all -/
section mo
variable {N : Nat} {μ : zSt} {l : zL} {e : Nat → Int32}
theorem mG_F {τ : zSt} (h : mF μ τ) (hL : τ.2.1 1 = -1 ∨ ∃ net, net < 2 ^ lPc l ∧ τ.2.1 1 = lN net ∧ mLk τ l net) (hT : lPn l ≤ 5 → τ.1 19 = 0 ∨ (τ.1 19 = 1 ∧ mTb τ l (2 ^ lPc l))) (hG : mG μ l e) : mG τ l e := by
  obtain ⟨g1, g2, g3, g4, g5, _, _⟩ := hG
  exact ⟨g1, g2, mP_fr h (notin rfl) (by decide) g3, mR_fr h (notin rfl) g4, mE_fr h (notin rfl) g5, hL, hT⟩
theorem m_of59 {net p : Nat} {Q : Int64 → zSt → Prop} (hN : 60 ≤ N) (hG : mG μ l e) (hp : p < lPn l) (hnet : net < 2 ^ lPc l) (hQ : Q (tw l e net p) μ) : b_X12_worthOf_59 N Q (lN net) (nI p) (wv l net p (lPn l)) μ := by
  obtain ⟨g1, g2, g3, g4, g5, g6, g7⟩ := hG
  have h10 := g1.1
  unfold b_X12_worthOf_59
  have he := g5 p (by omega)
  refine m_ties hN (net45 h10 hnet) g3.1 h10 (by omega) ⟨fun q => ?_, fun q => ?_⟩
  · rw [if_pos q] at he
    rw [he]; exact hQ
  · rw [if_neg q] at he
    rw [Int32.add_zero, he]; exact hQ
theorem m_of {net p : Nat} {Q : Int64 → zSt → Prop} (hN : 1100 < N) (hG : mG μ l e) (hp : p < lPn l) (hnet : net < 2 ^ lPc l) (hQ : ∀ τ, mF μ τ → mG τ l e → Q (tw l e net p) τ) : w_X12_worthOf N (lN net) (nI p) μ Q := by
  obtain ⟨g1, g2, g3, g4, g5, g6, g7⟩ := id hG
  have h10 := g1.1
  have h45 := net45 h10 hnet
  unfold w_X12_worthOf
  refine m_many g3.1 ⟨fun h5 => ?_, fun h5 => ?_⟩
  · have h5 : 5 < lPn l := (nI_ltI (a := 5) (by omega) (by omega)).mp h5
    have go : ∀ υ, fr [15] [1] [12, 13] [] μ υ → υ.2.1 1 = lN net → mLk υ l net → b_X12_worthOf_52 N Q (lN net) (nI p) υ := by
      intro υ hυ u1 u2
      have fυ : mF μ υ := fr_w hυ (subl rfl) (subl rfl) (subl rfl) (subl rfl)
      unfold b_X12_worthOf_52
      refine m_worthTo (l := l) (net := net) (by omega) g1 g2 hp (mP_fr fυ (notin rfl) (by decide) g3) (mR_fr fυ (notin rfl) g4) u2 (fun ω hω => ?_)
      have fω : mF μ ω := fr_t fυ (fr_w hω (subl rfl) (subl rfl) (subl rfl) (subl rfl))
      have gω : mG ω l e := mG_F fω (Or.inr ⟨net, hnet, (hω.2.1 1 (by decide)).trans u1, mLk_fr hω (by decide) (notin rfl) u2⟩) (fun q => absurd q (by omega)) hG
      exact m_of59 (by omega) gω hp hnet (hQ ω fω gω)
    simp only [lg_cmp_eq]
    refine ⟨fun q => ?_, fun q => m_looks (l := l) (by omega) h10 g3.1 h45 go⟩
    rcases g6 with h | ⟨net', k1, k2, k3⟩
    · exact absurd (q.symm.trans h) (lN_m1 (by omega))
    · have := net45 h10 k1
      have e1 : net' = net := (fb_lN_inj (by omega) (by omega)).mp (k2.symm.trans q)
      subst e1
      exact go μ fr_r k2 k3
  · have h5 : lPn l ≤ 5 := by
      rcases Nat.lt_or_ge 5 (lPn l) with g | g
      · exact absurd (nI_lt g (by omega)) h5
      · exact g
    have hpc : lPc l ≤ 10 := tri_mono (b := 5) h5
    have h2p : 2 ^ lPc l ≤ 1024 := p2le hpc
    have go : ∀ υ, mF μ υ → mG υ l e → mTb υ l (2 ^ lPc l) → b_X12_worthOf_22 N Q (lN net) (nI p) υ := by
      intro υ fυ gυ tb
      unfold b_X12_worthOf_22
      have e5 : (5 : Int32) * (lN net).toInt32 + nI p = nI (5 * net + p) := by rw [lN_i, li_5, pk_mul, nI_add]
      rw [e5, nI_clamp (n := 5 * net + p) (by omega), tb net p hnet hp]
      exact ⟨vp_in_nI (by omega) (by decide), nm_e (m_of59 (by omega) gυ hp hnet (hQ υ fυ gυ))⟩
    refine ⟨fun q => ?_, fun q => ?_⟩
    · refine m_fills (l := l) hN g1 g2 h5 g3 g4 (fun υ fυ u1 u2 u3 => go υ fυ (mG_F fυ (Or.inr u3) (fun _ => Or.inr ⟨u1, u2⟩) hG) u2)
    · rcases g7 h5 with h | ⟨_, h⟩
      · exact absurd h q
      · exact go μ fr_r hG h
theorem m_ofAll {net : Nat} {Q : Int64 → zSt → Prop} (hN : 1100 < N) (hG : mG μ l e) (hnet : net < 2 ^ lPc l) (hQ : ∀ τ, mF μ τ → mG τ l e → Q (twS l e net (lPn l)) τ) : w_X12_worthOfAll N (lN net) μ Q := by
  have h10 := hG.1.1
  refine loopU (S := zSt) (fun f p τ => w_X12_worthOfAll_5 N Q f (lN net) (twS l e net p) (nI p) τ) (fun p τ => mF μ τ ∧ mG τ l e) (lPn l) ?_ ?_ N 0 μ (Nat.zero_le _) (by omega) ⟨fr_r, hG⟩
  · intro f τ ⟨h0, h1⟩
    show b_X12_worthOfAll_5 N (w_X12_worthOfAll_5 N Q f) Q (lN net) (twS l e net (lPn l)) (nI (lPn l)) τ
    unfold b_X12_worthOfAll_5
    exact m_many h1.2.2.1.1 (br_t (nI_le (Nat.le_refl _) (by omega)) (hQ τ h0 h1))
  · intro f p τ hp ⟨h0, h1⟩ ih
    show b_X12_worthOfAll_5 N (w_X12_worthOfAll_5 N Q f) Q (lN net) (twS l e net p) (nI p) τ
    unfold b_X12_worthOfAll_5
    refine m_many h1.2.2.1.1 (br_f (nI_ge hp (by omega)) (m_of hN h1 hp hnet (fun υ f1 g1 => nm_e (nm_e ?_))))
    rw [nI_1]
    exact ih υ ⟨fr_t h0 f1, g1⟩
end mo
