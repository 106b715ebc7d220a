/-! the reference's swaps: by pairs -/
theorem oth_pr {k p : Nat} (hk : k < 45) (h : loN k = p) : prN p (hiN k) = k := by
  obtain ⟨g1, g2, g3, g4, g5⟩ := hiN_ok k hk
  subst h; exact g4
theorem oth_pr2 {k p : Nat} (hk : k < 45) (h : hiN k = p) : prN p (loN k) = k := by
  obtain ⟨g1, g2, g3, g4, g5⟩ := hiN_ok k hk
  subst h; rw [prN_c]; exact g4
section ms
variable {N : Nat} {μ : zSt} {l : zL} {e : Nat → Int32} {Q : Int32 → zSt → Prop}
theorem m_sw116 {k2 : Int64 → Int32 → zSt → Prop} {k13 : Int64 → Int32 → Int32 → zSt → Prop} {k55 : Int64 → Int32 → Int32 → Int32 → zSt → Prop} {net p c m q : Nat} {μ0 : zSt} (hN : 1100 < N) (h10 : lPn l ≤ 10) (hn : net < 2 ^ lPc l) (hp : p < lPn l) (hq : q < lPn l) (hc : c < lPc l) (hm : m < lPc l) (hpr : prN p q = m) (hb : net.testBit m = false) (h0 : mF3 μ0 μ) (hw : nowI μ0 l e net) (hG : mG μ l e) (hno : ∀ τ, mF3 μ0 τ → mG τ l e → gsw l e net p c q = none → k55 (lN net) (nI p) (nI c) (nI (m + 1)) τ) (hyes : ∀ τ, mF3 μ0 τ → mG τ l e → (gsw l e net p c q).isSome = true → mO τ (gsw l e net p c q) → Q 1 τ) : b_X12_findsSwap_116 N k2 k13 k55 Q (lN net) (nI p) (nI c) (nI m) (nI q) μ := by
  have hpc := pc_le h10
  have htb : bdf net (2 ^ c) ||| 2 ^ m < 2 ^ lPc l := Nat.or_lt_two_pow (bdf_lt hn) (p2lt hm)
  have hg : gsw l e net p c q = if swpB l e net (bdf net (2 ^ c) ||| 2 ^ m) p q = true then some (3, 2 ^ p ||| 2 ^ q, bdf net (2 ^ c) ||| 2 ^ m) else none := by
    unfold gsw
    rw [hpr, if_neg (by rw [hb]; decide)]
  have e1 : (1 : Int32) <<< (nI p &&& 31) = nI (2 ^ p) := oneI (by omega)
  have e2 : (1 : Int32) <<< (nI q &&& 31) = nI (2 ^ q) := oneI (by omega)
  unfold b_X12_findsSwap_116
  rw [oneJ (by omega), oneJ (by omega), bdfJ, fb_orL, e1, e2, fa_or, nI_1]
  generalize bdf net (2 ^ c) ||| 2 ^ m = to at *
  refine nm_e (m_may (by omega) hG htb ⟨fun z => nm_e ?_, fun z => ?_⟩)
  · have z := b32_0.mp z
    exact hno μ h0 hG (by rw [hg]; unfold swpB; rw [z]; rfl)
  have hmy : mayv l to = true := by
    cases h : mayv l to with
    | true => rfl
    | false => exact absurd (b32_0.mpr h) z
  unfold swpB at hg
  rw [hmy, Bool.true_and] at hg
  refine m_gains hN hG (now_3 h0 hw) hp htb (fun τ f1 g1 => ?_)
  have ff := fr_t h0 (mF_3 f1)
  cases hg1 : gnB l e net to p with
  | false =>
    rw [hg1] at hg
    exact br_t rfl (nm_e (hno τ ff g1 hg))
  | true =>
    rw [hg1, Bool.true_and] at hg
    refine br_f (by decide) (m_of hN g1 hq htb (fun υ f2 g2 => ⟨vp_in_nI (by omega) (by decide), ?_⟩))
    have ff2 := fr_t ff (mF_3 f2)
    rw [nI_clamp (n := q) (by omega), now_3 ff2 hw q hq, lg_cmp_lt]
    refine ⟨fun z => nm_e ?_, fun z => ?_⟩
    · rw [decide_eq_false (fun w => Int64.not_le.mpr z w)] at hg
      exact hno υ ff2 g2 hg
    · rw [decide_eq_true (Int64.not_lt.mp z), if_pos rfl] at hg
      rw [hg] at hyes
      exact m_finds (s := 3) ff2 g2 (fun ω w0 w1 w2 => hyes ω w0 w1 rfl w2)
theorem m_sw55 {k2 : Int64 → Int32 → zSt → Prop} {k13 : Int64 → Int32 → Int32 → zSt → Prop} {net p c : Nat} {μ0 : zSt} (hN : 1100 < N) (h10 : lPn l ≤ 10) (hn : net < 2 ^ lPc l) (hp : p < lPn l) (hc : c < lPc l) (hw : nowI μ0 l e net) (hno : ∀ τ, mF3 μ0 τ → mG τ l e → fstO (pairP p (gsw l e net p c)) (lPc l) 0 = none → k13 (lN net) (nI p) (nI (c + 1)) τ) (hyes : ∀ τ, mF3 μ0 τ → mG τ l e → (fstO (pairP p (gsw l e net p c)) (lPc l) 0).isSome = true → mO τ (fstO (pairP p (gsw l e net p c)) (lPc l) 0) → Q 1 τ) (h0 : mF3 μ0 μ) (hG : mG μ l e) : w_X12_findsSwap_55 N k2 k13 Q N (lN net) (nI p) (nI c) 0 μ := by
  have hpc := pc_le h10
  have h45 := net45 h10 hn
  refine loopU (S := zSt) (fun f m τ => w_X12_findsSwap_55 N k2 k13 Q f (lN net) (nI p) (nI c) (nI m) τ) (fun m τ => mF3 μ0 τ ∧ mG τ l e ∧ fstO (pairP p (gsw l e net p c)) (lPc l - m) m = fstO (pairP p (gsw l e net p c)) (lPc l) 0) (lPc l) ?_ ?_ N 0 μ (Nat.zero_le _) (by omega) ⟨h0, hG, rfl⟩
  · intro f τ ⟨h0, h1, h2⟩
    show b_X12_findsSwap_55 N k2 k13 (w_X12_findsSwap_55 N k2 k13 Q f) Q (lN net) (nI p) (nI c) (nI (lPc l)) τ
    unfold b_X12_findsSwap_55
    refine m_pairs h1.2.2.1.1 h10 (br_t (nI_le (Nat.le_refl _) (by omega)) (nm_e ?_))
    rw [nI_1]
    exact hno τ h0 h1 (fst_e h2)
  · intro f m τ hm ⟨h0, h1, h2⟩ ih
    show b_X12_findsSwap_55 N k2 k13 (w_X12_findsSwap_55 N k2 k13 Q f) Q (lN net) (nI p) (nI c) (nI m) τ
    unfold b_X12_findsSwap_55
    have hlo := lo_pc h10 hm
    have hhi := hi_pc h10 hm
    have hm45 : m < 45 := by omega
    have hll := (hiN_ok m hm45).2.2.1
    refine m_pairs h1.2.2.1.1 h10 (br_f (nI_ge hm (by show lPc l < 2 ^ 31; omega)) (m_isTied (by omega) (by omega) ?_))
    cases hb : net.testBit m with
    | true =>
      refine br_f (by decide) (nm_e ?_)
      rw [nI_1]
      refine ih τ ⟨h0, h1, fst_n hm ?_ h2⟩
      unfold pairP gsw
      by_cases c1 : loN m = p
      · rw [if_pos c1, oth_pr hm45 c1, if_pos hb]
      · rw [if_neg c1]
        by_cases c2 : hiN m = p
        · rw [if_pos c2, oth_pr2 hm45 c2, if_pos hb]
        · rw [if_neg c2]
    | false =>
      refine br_t rfl (m_lowOf (by omega) (by omega) ⟨fun r => ?_, fun r => m_highOf (by omega) (by omega) ⟨fun r2 => ?_, fun r2 => nm_e ?_⟩⟩)
      · have r1 := (nI_eq (by omega) (by omega)).mp r
        unfold b_X12_findsSwap_94
        refine m_lowOf (by omega) (by omega) (br_t r (m_highOf (by omega) (by omega) ?_))
        have hg : pairP p (gsw l e net p c) m = gsw l e net p c (hiN m) := if_pos r1
        refine m_sw116 hN h10 hn hp hhi hc hm (oth_pr hm45 r1) hb h0 hw h1 (fun υ u0 u1 u2 => ih υ ⟨u0, u1, fst_n hm (hg.trans u2) h2⟩) (fun υ u0 u1 u2 u3 => ?_)
        obtain ⟨x, hx⟩ := Option.isSome_iff_exists.mp u2
        have hs := (fst_s hm (hg.trans hx)).symm.trans h2
        rw [← hs] at hyes
        rw [hx] at u3
        exact hyes υ u0 u1 rfl u3
      · have r1 : ¬ loN m = p := fun z => r (by rw [z])
        have r3 := (nI_eq (by omega) (by omega)).mp r2
        unfold b_X12_findsSwap_94
        refine m_lowOf (by omega) (by omega) (br_f r (m_lowOf (by omega) (by omega) ?_))
        have hg : pairP p (gsw l e net p c) m = gsw l e net p c (loN m) := by unfold pairP; rw [if_neg r1, if_pos r3]
        refine m_sw116 hN h10 hn hp hlo hc hm (oth_pr2 hm45 r3) hb h0 hw h1 (fun υ u0 u1 u2 => ih υ ⟨u0, u1, fst_n hm (hg.trans u2) h2⟩) (fun υ u0 u1 u2 u3 => ?_)
        obtain ⟨x, hx⟩ := Option.isSome_iff_exists.mp u2
        have hs := (fst_s hm (hg.trans hx)).symm.trans h2
        rw [← hs] at hyes
        rw [hx] at u3
        exact hyes υ u0 u1 rfl u3
      · have r1 : ¬ loN m = p := fun z => r (by rw [z])
        have r3 : ¬ hiN m = p := fun z => r2 (by rw [z])
        rw [nI_1]
        exact ih τ ⟨h0, h1, fst_n hm (by unfold pairP; rw [if_neg r1, if_neg r3]) h2⟩
theorem m_findsSwap {net : Nat} (hN : 1100 < N) (hG : mG μ l e) (hw : nowI μ l e net) (hn : net < 2 ^ lPc l) (hQ : ∀ τ, mF3 μ τ → mG τ l e → mO τ (fstO (gswap l e net) (lPn l) 0) → Q (b32 (fstO (gswap l e net) (lPn l) 0).isSome) τ) : w_X12_findsSwap N (lN net) μ Q := by
  have h10 := hG.1.1
  have hpc := pc_le h10
  have h45 := net45 h10 hn
  refine loopU (S := zSt) (fun f p τ => w_X12_findsSwap_2 N Q f (lN net) (nI p) τ) (fun p τ => mF3 μ τ ∧ mG τ l e ∧ fstO (gswap l e net) (lPn l - p) p = fstO (gswap l e net) (lPn l) 0) (lPn l) ?_ ?_ N 0 μ (Nat.zero_le _) (by omega) ⟨fr_r, hG, rfl⟩
  · intro f τ ⟨h0, h1, h2⟩
    show b_X12_findsSwap_2 N (w_X12_findsSwap_2 N Q f) Q (lN net) (nI (lPn l)) τ
    unfold b_X12_findsSwap_2
    have hz := fst_e h2
    rw [hz] at hQ
    exact m_many h1.2.2.1.1 (br_t (nI_le (Nat.le_refl _) (by omega)) (hQ τ h0 h1 mO_n))
  · intro f p τ hp ⟨h0, h1, h2⟩ ih
    show b_X12_findsSwap_2 N (w_X12_findsSwap_2 N Q f) Q (lN net) (nI p) τ
    unfold b_X12_findsSwap_2
    refine m_many h1.2.2.1.1 (br_f (nI_ge hp (by omega)) ?_)
    have hgp : fstO (pairP p (gold l e net p)) (lPc l) 0 = gswap l e net p := by
      have := pair_per p (gold l e net p) (lPn l) h10
      rw [if_pos hp] at this
      exact this
    refine loopU (S := zSt) (fun g c τ => w_X12_findsSwap_13 N (w_X12_findsSwap_2 N Q f) Q g (lN net) (nI p) (nI c) τ) (fun c τ => mF3 μ τ ∧ mG τ l e ∧ fstO (pairP p (gold l e net p)) (lPc l - c) c = gswap l e net p) (lPc l) ?_ ?_ N 0 τ (Nat.zero_le _) (by omega) ⟨h0, h1, hgp⟩
    · intro g υ ⟨u0, u1, u2⟩
      show b_X12_findsSwap_13 N (w_X12_findsSwap_2 N Q f) (w_X12_findsSwap_13 N (w_X12_findsSwap_2 N Q f) Q g) Q (lN net) (nI p) (nI (lPc l)) υ
      unfold b_X12_findsSwap_13
      refine m_pairs u1.2.2.1.1 h10 (br_t (nI_le (Nat.le_refl _) (by omega)) (nm_e ?_))
      rw [nI_1]
      exact ih υ ⟨u0, u1, fst_n hp (fst_e u2) h2⟩
    · intro g c υ hc ⟨u0, u1, u2⟩ ih2
      show b_X12_findsSwap_13 N (w_X12_findsSwap_2 N Q f) (w_X12_findsSwap_13 N (w_X12_findsSwap_2 N Q f) Q g) Q (lN net) (nI p) (nI c) υ
      unfold b_X12_findsSwap_13
      have hlo := lo_pc h10 hc
      have hhi := hi_pc h10 hc
      have hc45 : c < 45 := by omega
      refine m_pairs u1.2.2.1.1 h10 (br_f (nI_ge hc (by show lPc l < 2 ^ 31; omega)) (m_isTied (by omega) (by omega) ?_))
      have hq0 : ∀ q, prN p q = c → net.testBit c = true → gold l e net p q = fstO (pairP p (gsw l e net p c)) (lPc l) 0 := by
        intro q e1 e2
        unfold gold
        have := pair_per p (gsw l e net p c) (lPn l) h10
        rw [if_pos hp] at this
        rw [e1, if_pos e2]
        exact this.symm
      have go : ∀ q, prN p q = c → net.testBit c = true → pairP p (gold l e net p) c = gold l e net p q → w_X12_findsSwap_55 N (w_X12_findsSwap_2 N Q f) (w_X12_findsSwap_13 N (w_X12_findsSwap_2 N Q f) Q g) Q N (lN net) (nI p) (nI c) 0 υ := by
        intro q e1 e2 e3
        have e4 := e3.trans (hq0 q e1 e2)
        refine m_sw55 hN h10 hn hp hc hw (fun ω w0 w1 w2 => ih2 ω ⟨w0, w1, fst_n hc (e4.trans w2) u2⟩) (fun ω w0 w1 w2 w3 => ?_) u0 u1
        obtain ⟨x, hx⟩ := Option.isSome_iff_exists.mp w2
        have hs := (fst_s hc (e4.trans hx)).symm.trans u2
        have hs2 := (fst_s hp hs.symm).symm.trans h2
        rw [← hs2] at hQ
        rw [hx] at w3
        exact hQ ω w0 w1 w3
      cases hb : net.testBit c with
      | false =>
        refine br_t rfl (nm_e ?_)
        rw [nI_1]
        refine ih2 υ ⟨u0, u1, fst_n hc ?_ u2⟩
        unfold pairP gold
        by_cases c1 : loN c = p
        · rw [if_pos c1, oth_pr hc45 c1, if_neg (by rw [hb]; decide)]
        · rw [if_neg c1]
          by_cases c2 : hiN c = p
          · rw [if_pos c2, oth_pr2 hc45 c2, if_neg (by rw [hb]; decide)]
          · rw [if_neg c2]
      | true =>
        refine br_f (by decide) (m_lowOf (by omega) (by omega) ⟨fun r => ?_, fun r => m_highOf (by omega) (by omega) ⟨fun r2 => ?_, fun r2 => nm_e ?_⟩⟩)
        · have r1 := (nI_eq (by omega) (by omega)).mp r
          exact go (hiN c) (oth_pr hc45 r1) hb (if_pos r1)
        · have r1 : ¬ loN c = p := fun z => r (by rw [z])
          have r3 := (nI_eq (by omega) (by omega)).mp r2
          exact go (loN c) (oth_pr2 hc45 r3) hb (by unfold pairP; rw [if_neg r1, if_pos r3])
        · have r1 : ¬ loN c = p := fun z => r (by rw [z])
          have r3 : ¬ hiN c = p := fun z => r2 (by rw [z])
          rw [nI_1]
          exact ih2 υ ⟨u0, u1, fst_n hc (by unfold pairP; rw [if_neg r1, if_neg r3]) u2⟩
end ms
