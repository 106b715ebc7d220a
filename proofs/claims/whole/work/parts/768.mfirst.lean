/-! the same of the reference -/
section mf2
variable {N : Nat} {μ : zSt} {l : zL} {e : Nat → Int32} {Q : Int32 → zSt → Prop}
theorem m_finds {s w a : Nat} {μ0 : zSt} (h0 : mF3 μ0 μ) (hG : mG μ l e) (hQ : ∀ τ, mF3 μ0 τ → mG τ l e → mO τ (some (s, w, a)) → Q 1 τ) : w_X12_finds N (nI s) (nI w) (lN a) μ (fun r τ => zb r ∧ Q r τ) := by
  unfold w_X12_finds
  refine nm_e (nm_e (nm_e ⟨zb_1, hQ _ (fr_J (fr_I (fr_I h0 (by decide)) (by decide)) (by decide)) (mG_2 (fr_J (fr_I (fr_I fr_r (by decide)) (by decide)) (by decide)) hG) ?_⟩))
  intro s' w' a' h
  cases h
  exact ⟨rfl, rfl, rfl⟩
theorem m_findsCut {net : Nat} (hN : 1100 < N) (hG : mG μ l e) (hw : nowI μ l e net) (hn : net < 2 ^ lPc l) (hQ : ∀ τ, mF3 μ τ → mG τ l e → mO τ (fstO (gcut l e net) (lPc l) 0) → Q (b32 (fstO (gcut l e net) (lPc l) 0).isSome) τ) : w_X12_findsCut N (lN net) μ Q := by
  have h10 := hG.1.1
  have hpc := pc_le h10
  have h45 := net45 h10 hn
  refine loopU (S := zSt) (fun f k τ => w_X12_findsCut_2 N Q f (lN net) (nI k) τ) (fun k τ => mF3 μ τ ∧ mG τ l e ∧ fstO (gcut l e net) (lPc l - k) k = fstO (gcut l e net) (lPc l) 0) (lPc l) ?_ ?_ N 0 μ (Nat.zero_le _) (by omega) ⟨fr_r, hG, rfl⟩
  · intro f τ ⟨h0, h1, h2⟩
    show b_X12_findsCut_2 N (w_X12_findsCut_2 N Q f) Q (lN net) (nI (lPc l)) τ
    unfold b_X12_findsCut_2
    have hz := fst_e h2
    rw [hz] at hQ
    exact m_pairs h1.2.2.1.1 h10 (br_t (nI_le (Nat.le_refl _) (by omega)) (hQ τ h0 h1 mO_n))
  · intro f k τ hk ⟨h0, h1, h2⟩ ih
    show b_X12_findsCut_2 N (w_X12_findsCut_2 N Q f) Q (lN net) (nI k) τ
    unfold b_X12_findsCut_2
    have hlo := lo_pc h10 hk
    have hhi := hi_pc h10 hk
    have hk45 : k < 45 := by omega
    have e1 : (1 : Int32) <<< (nI (loN k) &&& 31) = nI (2 ^ loN k) := oneI (by omega)
    have e2 : (1 : Int32) <<< (nI (hiN k) &&& 31) = nI (2 ^ hiN k) := oneI (by omega)
    refine m_pairs h1.2.2.1.1 h10 (br_f (nI_ge hk (by show lPc l < 2 ^ 31; omega)) (m_isTied (by omega) (by omega) ?_))
    cases hb : net.testBit k with
    | false =>
      refine br_t rfl ?_
      unfold b_X12_findsCut_28
      refine br_t rfl (nm_e ?_)
      rw [nI_1]
      exact ih τ ⟨h0, h1, fst_n hk (by unfold gcut; rw [if_neg (by rw [hb]; decide)]) h2⟩
    | true =>
      refine br_f (by decide) (m_cutter hN h1 (now_3 h0 hw) hk hn (fun υ f1 g1 => ?_))
      have ff := fr_t h0 (mF_3 f1)
      unfold b_X12_findsCut_28 cutN
      rw [oneJ (by omega), bdfJ, nI_1]
      cases hl1 : gnB l e net (bdf net (2 ^ k)) (loN k) with
      | true =>
        rw [if_pos rfl, e1]
        have hs := (fst_s hk (show gcut l e net k = some (0, 2 ^ loN k, bdf net (2 ^ k)) by unfold gcut; rw [if_pos hb, if_pos hl1])).symm.trans h2
        rw [← hs] at hQ
        exact br_f (m1_ne (by omega)) (m_finds (s := 0) ff g1 hQ)
      | false =>
        rw [if_neg (by decide)]
        cases hh1 : gnB l e net (bdf net (2 ^ k)) (hiN k) with
        | true =>
          rw [if_pos rfl, e2]
          have hs := (fst_s hk (show gcut l e net k = some (0, 2 ^ hiN k, bdf net (2 ^ k)) by unfold gcut; rw [if_pos hb, if_neg (by rw [hl1]; decide), if_pos hh1])).symm.trans h2
          rw [← hs] at hQ
          exact br_f (m1_ne (by omega)) (m_finds (s := 0) ff g1 hQ)
        | false =>
          rw [if_neg (by decide)]
          exact br_t rfl (nm_e (ih υ ⟨ff, g1, fst_n hk (by unfold gcut; rw [if_pos hb, if_neg (by rw [hl1]; decide), if_neg (by rw [hh1]; decide)]) h2⟩))
theorem m_findsAdd {net : Nat} (hN : 1100 < N) (hG : mG μ l e) (he : eOk e) (hw : nowI μ l e net) (hn : net < 2 ^ lPc l) (hQ : ∀ τ, mF3 μ τ → mG τ l e → mO τ (fstO (gadd l e net) (lPc l) 0) → Q (b32 (fstO (gadd l e net) (lPc l) 0).isSome) τ) : w_X12_findsAdd N (lN net) μ Q := by
  have h10 := hG.1.1
  have hpc := pc_le h10
  have h45 := net45 h10 hn
  refine loopU (S := zSt) (fun f k τ => w_X12_findsAdd_2 N Q f (lN net) (nI k) τ) (fun k τ => mF3 μ τ ∧ mG τ l e ∧ fstO (gadd l e net) (lPc l - k) k = fstO (gadd l e net) (lPc l) 0) (lPc l) ?_ ?_ N 0 μ (Nat.zero_le _) (by omega) ⟨fr_r, hG, rfl⟩
  · intro f τ ⟨h0, h1, h2⟩
    show b_X12_findsAdd_2 N (w_X12_findsAdd_2 N Q f) Q (lN net) (nI (lPc l)) τ
    unfold b_X12_findsAdd_2
    have hz := fst_e h2
    rw [hz] at hQ
    exact m_pairs h1.2.2.1.1 h10 (br_t (nI_le (Nat.le_refl _) (by omega)) (hQ τ h0 h1 mO_n))
  · intro f k τ hk ⟨h0, h1, h2⟩ ih
    show b_X12_findsAdd_2 N (w_X12_findsAdd_2 N Q f) Q (lN net) (nI k) τ
    unfold b_X12_findsAdd_2
    have hlo := lo_pc h10 hk
    have hhi := hi_pc h10 hk
    have e1 : (1 : Int32) <<< (nI (loN k) &&& 31) = nI (2 ^ loN k) := oneI (by omega)
    have e2 : (1 : Int32) <<< (nI (hiN k) &&& 31) = nI (2 ^ hiN k) := oneI (by omega)
    refine m_pairs h1.2.2.1.1 h10 (br_f (nI_ge hk (by show lPc l < 2 ^ 31; omega)) (m_isTied (by omega) (by omega) ?_))
    cases hb : net.testBit k with
    | true =>
      refine br_f (by decide) (nm_e ?_)
      rw [nI_1]
      exact ih τ ⟨h0, h1, fst_n hk (by unfold gadd; rw [if_pos hb]) h2⟩
    | false =>
      refine br_t rfl (m_isAdd hN h1 he (now_3 h0 hw) hk hn (fun υ f1 g1 => ?_))
      have ff := fr_t h0 (mF_3 f1)
      cases ha : addB l e net k with
      | false =>
        refine br_t rfl (nm_e ?_)
        rw [nI_1]
        exact ih υ ⟨ff, g1, fst_n hk (by unfold gadd; rw [if_neg (by rw [hb]; decide), if_neg (by rw [ha]; decide)]) h2⟩
      | true =>
        have hs := (fst_s hk (show gadd l e net k = some (1, 2 ^ loN k ||| 2 ^ hiN k, net ||| 2 ^ k) by unfold gadd; rw [if_neg (by rw [hb]; decide), if_pos ha])).symm.trans h2
        rw [← hs] at hQ
        refine br_f (by decide) (m_lowOf (by omega) (by omega) (m_highOf (by omega) (by omega) ?_))
        rw [e1, e2, fa_or, oneJ (by omega), fb_orL]
        exact m_finds (s := 1) ff g1 hQ
theorem m_findsTog {net : Nat} (hN : 1100 < N) (hG : mG μ l e) (hw : nowI μ l e net) (hn : net < 2 ^ lPc l) (hQ : ∀ τ, mF3 μ τ → mG τ l e → mO τ (fstO (gtog l e net) (lPc l) 0) → Q (b32 (fstO (gtog l e net) (lPc l) 0).isSome) τ) : w_X12_findsTogether N (lN net) μ Q := by
  have h10 := hG.1.1
  have hpc := pc_le h10
  have h45 := net45 h10 hn
  refine loopU (S := zSt) (fun f k τ => w_X12_findsTogether_2 N Q f (lN net) (nI k) τ) (fun k τ => mF3 μ τ ∧ mG τ l e ∧ fstO (gtog l e net) (lPc l - k) k = fstO (gtog l e net) (lPc l) 0) (lPc l) ?_ ?_ N 0 μ (Nat.zero_le _) (by omega) ⟨fr_r, hG, rfl⟩
  · intro f τ ⟨h0, h1, h2⟩
    show b_X12_findsTogether_2 N (w_X12_findsTogether_2 N Q f) Q (lN net) (nI (lPc l)) τ
    unfold b_X12_findsTogether_2
    have hz := fst_e h2
    rw [hz] at hQ
    exact m_pairs h1.2.2.1.1 h10 (br_t (nI_le (Nat.le_refl _) (by omega)) (hQ τ h0 h1 mO_n))
  · intro f k τ hk ⟨h0, h1, h2⟩ ih
    show b_X12_findsTogether_2 N (w_X12_findsTogether_2 N Q f) Q (lN net) (nI k) τ
    unfold b_X12_findsTogether_2
    have hlo := lo_pc h10 hk
    have hhi := hi_pc h10 hk
    have e1 : (1 : Int32) <<< (nI (loN k) &&& 31) = nI (2 ^ loN k) := oneI (by omega)
    have e2 : (1 : Int32) <<< (nI (hiN k) &&& 31) = nI (2 ^ hiN k) := oneI (by omega)
    have htb : net ^^^ 2 ^ k < 2 ^ lPc l := Nat.xor_lt_two_pow hn (p2lt hk)
    have hg : gtog l e net k = if togB l e net (net ^^^ 2 ^ k) (loN k) (hiN k) = true then some (4, 2 ^ loN k ||| 2 ^ hiN k, net ^^^ 2 ^ k) else none := rfl
    refine m_pairs h1.2.2.1.1 h10 (br_f (nI_ge hk (by show lPc l < 2 ^ 31; omega)) ?_)
    rw [oneJ (by omega), fb_xorL, nI_1]
    generalize net ^^^ 2 ^ k = to at *
    refine nm_e (m_lowOf (by omega) (by omega) (m_highOf (by omega) (by omega) (m_may (by omega) h1 htb ⟨fun q => nm_e ?_, fun q => ?_⟩)))
    · have q := b32_0.mp q
      exact ih τ ⟨h0, h1, fst_n hk (by rw [hg]; unfold togB; rw [q]; rfl) h2⟩
    have hm : mayv l to = true := by
      cases h : mayv l to with
      | true => rfl
      | false => exact absurd (b32_0.mpr h) q
    unfold togB at hg
    rw [hm, Bool.true_and] at hg
    refine m_of hN h1 hlo htb (fun υ f1 g1 => m_of hN g1 hhi htb (fun ω f2 g2 => ⟨vp_in_nI (by omega) (by decide), vp_in_nI (by omega) (by decide), ?_⟩))
    have ff := fr_t h0 (mF_3 (fr_t f1 f2))
    have hw2 := now_3 ff hw
    rw [nI_clamp (n := loN k) (by omega), nI_clamp (n := hiN k) (by omega), hw2 _ hlo, hw2 _ hhi, lg_cmp_le, e1, e2, fa_or]
    refine ⟨fun r => nm_e ?_, fun r => ?_⟩
    · rw [decide_eq_true r] at hg
      exact ih ω ⟨ff, g2, fst_n hk hg h2⟩
    · rw [decide_eq_false r] at hg
      have hs := (fst_s hk hg).symm.trans h2
      rw [← hs] at hQ
      exact m_finds (s := 4) ff g2 hQ
end mf2
