/-! the same of the reference -/
def nowI (μ : zSt) (l : zL) (e : Nat → Int32) (net : Nat) : Prop := ∀ p, p < lPn l → μ.2.2.2 4 p = tw l e net p
theorem now_F {μ τ : zSt} {l : zL} {e : Nat → Int32} {net : Nat} (h : mF μ τ) (hn : nowI μ l e net) : nowI τ l e net := fun p hp => by rw [h.2.2.2 4 (by decide)]; exact hn p hp
def mF4 (σ τ : zSt) : Prop := fr [15, 18, 19] [1] [12, 13] [2, 3, 4] σ τ
theorem mF_4 {σ τ : zSt} (h : mF σ τ) : mF4 σ τ := fr_w h (subl rfl) (subl rfl) (subl rfl) (subl rfl)
theorem mG_B4 {μ : zSt} {l : zL} {e : Nat → Int32} {g : Nat → Int64} (h : mG μ l e) : mG (zB μ 4 g) l e := by
  obtain ⟨g1, g2, g3, g4, g5, g6, g7⟩ := h
  have f : fr [] [] [] [4] μ (zB μ 4 g) := fr_B fr_r (by decide)
  refine ⟨g1, g2, mP_fr f (notin rfl) (by decide) g3, mR_fr f (notin rfl) g4, mE_fr f (notin rfl) g5, ?_, ?_⟩
  · rcases g6 with h | ⟨net, h1, h2, h3⟩
    · exact Or.inl h
    · exact Or.inr ⟨net, h1, h2, mLk_fr f (by decide) (notin rfl) h3⟩
  · intro h5
    rcases g7 h5 with h | ⟨h1, h2⟩
    · exact Or.inl h
    · exact Or.inr ⟨h1, by unfold mTb; rw [f.2.2.2 3 (by decide)]; exact h2⟩
section mm
variable {N : Nat} {μ : zSt} {l : zL} {e : Nat → Int32} {Q : Int32 → zSt → Prop}
theorem m_begins {net : Nat} {Q : zSt → Prop} (hN : 1100 < N) (hG : mG μ l e) (hn : net < 2 ^ lPc l) (hQ : ∀ τ, mF4 μ τ → mG τ l e → nowI τ l e net → Q τ) : w_X12_begins N (lN net) μ Q := by
  have h10 := hG.1.1
  refine loopU (S := zSt) (fun f p τ => w_X12_begins_2 N Q f (lN net) (nI p) τ) (fun p τ => mF4 μ τ ∧ mG τ l e ∧ ∀ q, q < p → τ.2.2.2 4 q = tw l e net q) (lPn l) ?_ ?_ N 0 μ (Nat.zero_le _) (by omega) ⟨fr_r, hG, fun q h => absurd h (Nat.not_lt_zero _)⟩
  · intro f τ ⟨h0, h1, h2⟩
    show b_X12_begins_2 N (w_X12_begins_2 N Q f) Q (lN net) (nI (lPn l)) τ
    unfold b_X12_begins_2
    exact m_many h1.2.2.1.1 (br_t (nI_le (Nat.le_refl _) (by omega)) (hQ τ h0 h1 h2))
  · intro f p τ hp ⟨h0, h1, h2⟩ ih
    show b_X12_begins_2 N (w_X12_begins_2 N Q f) Q (lN net) (nI p) τ
    unfold b_X12_begins_2
    refine m_many h1.2.2.1.1 (br_f (nI_ge hp (by omega)) (m_of hN h1 hp hn (fun υ f1 g1 => ⟨vp_in_nI (by omega) (by decide), nm_e (nm_e ?_)⟩)))
    rw [nI_1, nI_clamp (n := p) (by omega)]
    refine ih _ ⟨fr_B (fr_t h0 (mF_4 f1)) (by decide), mG_B4 g1, fun q hq => ?_⟩
    rw [zB_4s]
    by_cases ee : q = p
    · subst ee; rw [pk_uLs]
    · rw [pk_uLn ee, f1.2.2.2 4 (by decide)]; exact h2 q (by omega)
theorem m_gains {net to p : Nat} (hN : 1100 < N) (hG : mG μ l e) (hw : nowI μ l e net) (hp : p < lPn l) (ht : to < 2 ^ lPc l) (hQ : ∀ τ, mF μ τ → mG τ l e → Q (b32 (gnB l e net to p)) τ) : w_X12_gains N (lN to) (nI p) μ Q := by
  have h10 := hG.1.1
  unfold w_X12_gains
  refine m_of hN hG hp ht (fun τ f1 g1 => ⟨vp_in_nI (by omega) (by decide), ?_⟩)
  have := hQ τ f1 g1
  rw [nI_clamp (n := p) (by omega), now_F f1 hw p hp]
  unfold gnB at this
  simp only [lg_cmp_le]
  refine ⟨fun q => ?_, fun q => ?_⟩
  · rw [decide_eq_true q] at this; exact this
  · rw [decide_eq_false q] at this; exact this
/-- who cuts, if one does -/
def cutN (l : zL) (e : Nat → Int32) (net k : Nat) : Int32 := if gnB l e net (bdf net (2 ^ k)) (loN k) = true then nI (loN k) else if gnB l e net (bdf net (2 ^ k)) (hiN k) = true then nI (hiN k) else -1
theorem m_cutter {net k : Nat} (hN : 1100 < N) (hG : mG μ l e) (hw : nowI μ l e net) (hk : k < lPc l) (hn : net < 2 ^ lPc l) (hQ : ∀ τ, mF μ τ → mG τ l e → Q (cutN l e net k) τ) : w_X12_cutter N (lN net) (nI k) μ Q := by
  have h10 := hG.1.1
  have hpc := pc_le h10
  have hlo := lo_pc h10 hk
  have hhi := hi_pc h10 hk
  have htb : bdf net (2 ^ k) < 2 ^ lPc l := bdf_lt hn
  unfold w_X12_cutter
  rw [oneJ (by omega), bdfJ]
  refine nm_e (m_lowOf (by omega) (by omega) (m_highOf (by omega) (by omega) ?_))
  unfold cutN at hQ
  generalize bdf net (2 ^ k) = to at *
  refine m_gains hN hG hw hlo htb (fun τ f1 g1 => ⟨fun q => ?_, fun q => ?_⟩)
  · have q := b32_0.mp q
    rw [q, if_neg (by decide)] at hQ
    refine m_gains hN g1 (now_F f1 hw) hhi htb (fun υ f2 g2 => ⟨fun r => ?_, fun r => ?_⟩)
    · have r := b32_0.mp r
      have := hQ υ (fr_t f1 f2) g2
      rw [r, if_neg (by decide)] at this
      exact this
    · have this := hQ υ (fr_t f1 f2) g2
      cases hb : gnB l e net to (hiN k) with
      | false => exact absurd (b32_0.mpr hb) r
      | true => rw [hb, if_pos rfl] at this; exact this
  · have this := hQ τ f1 g1
    cases hb : gnB l e net to (loN k) with
    | false => exact absurd (b32_0.mpr hb) q
    | true => rw [hb, if_pos rfl] at this; exact this
theorem m_isAdd {net k : Nat} (hN : 1100 < N) (hG : mG μ l e) (he : eOk e) (hw : nowI μ l e net) (hk : k < lPc l) (hn : net < 2 ^ lPc l) (hQ : ∀ τ, mF μ τ → mG τ l e → Q (b32 (addB l e net k)) τ) : w_X12_isAdd N (lN net) (nI k) μ Q := by
  have h10 := hG.1.1
  have hpc := pc_le h10
  have hlo := lo_pc h10 hk
  have hhi := hi_pc h10 hk
  have h2k : 2 ^ k < 2 ^ lPc l := p2lt hk
  have htb : net ||| 2 ^ k < 2 ^ lPc l := Nat.or_lt_two_pow hn h2k
  have bb := fun (net p : Nat) (hp : p < lPn l) => tw_b (net := net) hG.1 hG.2.1 he hp
  unfold w_X12_isAdd
  rw [oneJ (by omega), fb_orL]
  unfold addB at hQ
  generalize net ||| 2 ^ k = to at *
  refine nm_e (m_may (by omega) hG htb ⟨fun q => ?_, fun q => ?_⟩)
  · have hq := hQ μ fr_r hG
    rw [b32_0.mp q] at hq
    exact hq
  have hm : mayv l to = true := by
    cases h : mayv l to with
    | true => rfl
    | false => exact absurd (b32_0.mpr h) q
  rw [hm] at hQ
  refine m_lowOf (by omega) (by omega) (m_of hN hG hlo htb (fun τ f1 g1 => m_lowOf (by omega) (by omega) ⟨vp_in_nI (by omega) (by decide), nm_e ?_⟩))
  refine m_highOf (by omega) (by omega) (m_of hN g1 hhi htb (fun υ f2 g2 => m_highOf (by omega) (by omega) ⟨vp_in_nI (by omega) (by decide), nm_e ?_⟩))
  have f12 := fr_t f1 f2
  rw [nI_clamp (n := loN k) (by omega), nI_clamp (n := hiN k) (by omega), now_F f1 hw _ hlo, now_F f12 hw _ hhi]
  have s1 := bd_sub (bb to (loN k) hlo) (bb net (loN k) hlo)
  have s2 := bd_sub (bb to (hiN k) hhi) (bb net (hiN k) hhi)
  have hq := hQ υ f12 g2
  unfold gnB at hq
  rw [lg_cmp_lt, s1.2.2.1, lg_cmp_lt, s2.2.2.1, lg_cmp_le]
  refine ⟨fun r => ?_, fun r => ⟨fun r2 => ?_, fun r2 => ?_⟩⟩
  · rw [decide_eq_false (fun z => (Int64.not_le.mpr r) z)] at hq; exact hq
  · rw [decide_eq_true (Int64.not_lt.mp r), decide_eq_false (fun z => (Int64.not_le.mpr r2) z)] at hq; exact hq
  · rw [bd_two (bb to (loN k) hlo) (bb net (loN k) hlo) (bb to (hiN k) hhi) (bb net (hiN k) hhi) (Int64.not_lt.mp r) (Int64.not_lt.mp r2)]
    rw [decide_eq_true (Int64.not_lt.mp r), decide_eq_true (Int64.not_lt.mp r2)] at hq
    refine ⟨fun r3 => ?_, fun r3 => ?_⟩
    · rw [decide_eq_true r3.1, decide_eq_true r3.2] at hq; exact hq
    · by_cases z : tw l e to (loN k) ≤ tw l e net (loN k)
      · rw [decide_eq_true z, decide_eq_false (fun z2 => r3 ⟨z, z2⟩)] at hq; exact hq
      · rw [decide_eq_false z] at hq; exact hq
theorem m_isStep {net k : Nat} (hN : 1100 < N) (hG : mG μ l e) (he : eOk e) (hw : nowI μ l e net) (hk : k < lPc l) (hn : net < 2 ^ lPc l) (hQ : ∀ τ, mF μ τ → mG τ l e → Q (b32 (movB l e net k)) τ) : w_X12_isStep N (lN net) (nI k) μ Q := by
  have h10 := hG.1.1
  have hpc := pc_le h10
  have h45 := net45 h10 hn
  have hlo := lo_pc h10 hk
  have hhi := hi_pc h10 hk
  unfold w_X12_isStep
  refine m_isTied (by omega) (by omega) ?_
  unfold movB at hQ
  cases hb : net.testBit k with
  | true =>
    rw [hb, if_pos rfl] at hQ
    refine br_f (by decide) (m_cutter hN hG hw hk hn (fun τ f1 g1 => ?_))
    have hq := hQ τ f1 g1
    unfold cutN
    cases h1 : gnB l e net (bdf net (2 ^ k)) (loN k) with
    | true =>
      rw [h1] at hq
      rw [if_pos rfl]
      exact br_f (m1_ne (by omega)) hq
    | false =>
      rw [h1] at hq
      rw [if_neg (by decide)]
      cases h2 : gnB l e net (bdf net (2 ^ k)) (hiN k) with
      | true =>
        rw [h2] at hq
        rw [if_pos rfl]
        exact br_f (m1_ne (by omega)) hq
      | false =>
        rw [h2] at hq
        rw [if_neg (by decide)]
        exact br_t rfl hq
  | false =>
    rw [hb, if_neg (by decide)] at hQ
    refine br_t rfl (m_isAdd hN hG he hw hk hn (fun τ f1 g1 => ⟨b32_zb _, hQ τ f1 g1⟩))
end mm
