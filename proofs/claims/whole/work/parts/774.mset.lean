/-! the reference's sets -/
def cmK (net to s k : Nat) : Bool := !(net.testBit k && (!to.testBit k && (!s.testBit (loN k) && !s.testBit (hiN k)))) && !(!net.testBit k && (to.testBit k && !(s.testBit (loN k) && s.testBit (hiN k))))
section mt
variable {N : Nat} {μ : zSt} {l : zL} {e : Nat → Int32} {Q : Int32 → zSt → Prop}
theorem bitv {s k : Nat} (hs : s < 2 ^ 20) (hk : k < 20) : (nI s >>> (nI k &&& 31)) &&& 1 = nI (if s.testBit k = true then 1 else 0) := by
  rw [show (31 : Int32) = nI 31 from rfl, pk_shrN (by omega) _ k (shI k (by omega)), show (1 : Int32) = nI (2 ^ 1 - 1) from rfl, fa_mask]
  congr 1
  rw [Nat.testBit_eq_decide_div_mod_eq]
  have := Nat.mod_two_eq_zero_or_one (s / 2 ^ k)
  rcases this with h | h <;> simp [h]
theorem m_canMake {net to s : Nat} (hN : 1100 < N) (hG : mG μ l e) (hn : net < 2 ^ lPc l) (ht : to < 2 ^ lPc l) (hs : s < 1024) (hQ : Q (b32 (canM l net to s)) μ) : w_X12_canMake N (lN net) (lN to) (nI s) μ Q := by
  have h10 := hG.1.1
  have hpc := pc_le h10
  have h45 := net45 h10 hn
  have t45 := net45 h10 ht
  refine loopU (S := Unit) (fun f k _ => w_X12_canMake_3 N Q f (lN net) (lN to) (nI s) (nI k) μ) (fun k _ => ∀ j, j < k → cmK net to s j = true) (lPc l) ?_ ?_ N 0 () (Nat.zero_le _) (by omega) (fun j h => absurd h (Nat.not_lt_zero _))
  · intro f _ h
    show b_X12_canMake_3 N (w_X12_canMake_3 N Q f) Q (lN net) (lN to) (nI s) (nI (lPc l)) μ
    unfold b_X12_canMake_3
    refine m_pairs hG.2.2.1.1 h10 (br_t (nI_le (Nat.le_refl _) (by omega)) ?_)
    have : canM l net to s = true := List.all_eq_true.mpr (fun k hk => h k (List.mem_range.mp hk))
    rw [this] at hQ
    exact hQ
  · intro f k _ hk h ih
    show b_X12_canMake_3 N (w_X12_canMake_3 N Q f) Q (lN net) (lN to) (nI s) (nI k) μ
    unfold b_X12_canMake_3
    have hlo := lo_pc h10 hk
    have hhi := hi_pc h10 hk
    have bad : cmK net to s k = false → Q 0 μ := fun hf => by
      have : canM l net to s = false := by
        apply Bool.eq_false_iff.mpr
        intro hc
        have := List.all_eq_true.mp hc k (List.mem_range.mpr hk)
        have this : cmK net to s k = true := this
        rw [hf] at this; exact absurd this (by decide)
      rw [this] at hQ
      exact hQ
    have good : cmK net to s k = true → w_X12_canMake_3 N Q f (lN net) (lN to) (nI s) (nI (k + 1)) μ := fun hf => ih () (lt_s h hf)
    unfold cmK at bad good
    refine m_pairs hG.2.2.1.1 h10 (br_f (nI_ge hk (by show lPc l < 2 ^ 31; omega)) (m_lowOf (by omega) (by omega) (m_highOf (by omega) (by omega) (nm_e ?_))))
    rw [bitv (by omega) (by omega), bitv (by omega) (by omega), nI_add]
    unfold b_X12_canMake_58
    rw [nI_1]
    refine m_isTied (by omega) (by omega) ?_
    cases a1 : net.testBit k with
    | false =>
      rw [a1] at bad good
      refine br_t rfl (m_isTied (by omega) (by omega) ?_)
      rw [a1]
      refine br_t rfl (m_isTied (by omega) (by omega) ?_)
      cases a2 : to.testBit k with
      | false =>
        rw [a2] at bad good
        exact br_t rfl (nm_e (good rfl))
      | true =>
        rw [a2] at bad good
        refine br_f (by decide) ?_
        cases a3 : s.testBit (loN k) <;> cases a4 : s.testBit (hiN k) <;> rw [a3, a4] at bad good
        · exact br_f (by decide) (bad rfl)
        · exact br_f (by decide) (bad rfl)
        · exact br_f (by decide) (bad rfl)
        · exact br_t (by decide) (nm_e (good rfl))
    | true =>
      rw [a1] at bad good
      refine br_f (by decide) (m_isTied (by omega) (by omega) ?_)
      cases a2 : to.testBit k with
      | true =>
        rw [a2] at bad good
        refine br_f (by decide) (m_isTied (by omega) (by omega) ?_)
        rw [a1]
        exact br_f (by decide) (nm_e (good rfl))
      | false =>
        rw [a2] at bad good
        refine br_t rfl ?_
        have fin : w_X12_isTied N (lN net) (nI k) μ (fun r1 τ2 => (r1 = 0 → w_X12_isTied N (lN to) (nI k) τ2 (fun r4 τ5 => (r4 = 0 → ∀ v6 : Int32, v6 = nI (k + 1) → w_X12_canMake_3 N Q f (lN net) (lN to) (nI s) v6 τ5) ∧ (¬ r4 = 0 → (2 ≤ nI ((if s.testBit (loN k) = true then 1 else 0) + (if s.testBit (hiN k) = true then 1 else 0)) → ∀ v7 : Int32, v7 = nI (k + 1) → w_X12_canMake_3 N Q f (lN net) (lN to) (nI s) v7 τ5) ∧ (¬ 2 ≤ nI ((if s.testBit (loN k) = true then 1 else 0) + (if s.testBit (hiN k) = true then 1 else 0)) → Q 0 τ5)))) ∧ (¬ r1 = 0 → ∀ v3 : Int32, v3 = nI (k + 1) → w_X12_canMake_3 N Q f (lN net) (lN to) (nI s) v3 τ2)) ∨ (s.testBit (loN k) = false ∧ s.testBit (hiN k) = false) := by
          by_cases c : s.testBit (loN k) = false ∧ s.testBit (hiN k) = false
          · exact Or.inr c
          · refine Or.inl (m_isTied (by omega) (by omega) ?_)
            rw [a1]
            refine br_f (by decide) (nm_e (good ?_))
            cases a3 : s.testBit (loN k) <;> cases a4 : s.testBit (hiN k) <;> first | rfl | exact absurd ⟨a3, a4⟩ c
        rcases fin with fin | ⟨a3, a4⟩
        · by_cases c : s.testBit (loN k) = false ∧ s.testBit (hiN k) = false
          · rw [c.1, c.2] at bad ⊢
            exact br_t rfl (bad rfl)
          · refine br_f ?_ fin
            cases a3 : s.testBit (loN k) <;> cases a4 : s.testBit (hiN k)
            · exact absurd ⟨a3, a4⟩ c
            · decide
            · decide
            · decide
        · rw [a3, a4] at bad ⊢
          exact br_t rfl (bad rfl)
theorem m_set81 {k2 : Int64 → Int64 → zSt → Prop} {net to : Nat} {μ0 : zSt} (hN : 1100 < N) (h5 : lPn l ≤ 5) (hn : net < 2 ^ lPc l) (ht : to < 2 ^ lPc l) (hmy : mayv l to = true) (hne : to ≠ net) (h0 : mF3 μ0 μ) (hG : mG μ l e) (hno : gset l e net to = none → k2 (lN net) (lN (to + 1)) μ) (hyes : ∀ τ, mF3 μ0 τ → mG τ l e → (gset l e net to).isSome = true → mO τ (gset l e net to) → Q 1 τ) : w_X12_findsSet_81 N k2 Q N (lN net) (lN to) (nI (gnM l e net to)) 1 μ := by
  have h10 := hG.1.1
  have h2n : 2 ^ lPn l ≤ 32 := Nat.pow_le_pow_right (n := 2) (by decide) h5
  have h2q : 0 < 2 ^ lPn l := Nat.two_pow_pos _
  have hgl := gnM_lt l e net to
  have hg : gset l e net to = if frs (cS l e net to) (2 ^ lPn l - 1) 1 = 0 then none else some (5, frs (cS l e net to) (2 ^ lPn l - 1) 1, to) := by
    unfold gset; rw [if_pos ⟨hmy, hne⟩]
  have e1 : (1 : Int32) <<< (nI (lPn l) &&& 31) = nI (2 ^ lPn l) := oneI (by omega)
  refine loopU (S := Unit) (fun f s _ => w_X12_findsSet_81 N k2 Q f (lN net) (lN to) (nI (gnM l e net to)) (nI (s + 1)) μ) (fun s _ => frs (cS l e net to) (2 ^ lPn l - 1 - s) (s + 1) = frs (cS l e net to) (2 ^ lPn l - 1) 1) (2 ^ lPn l - 1) ?_ ?_ N 0 () (Nat.zero_le _) (by omega) rfl
  · intro f _ h
    show b_X12_findsSet_81 N k2 (w_X12_findsSet_81 N k2 Q f) Q (lN net) (lN to) (nI (gnM l e net to)) (nI (2 ^ lPn l - 1 + 1)) μ
    unfold b_X12_findsSet_81
    rw [show 2 ^ lPn l - 1 + 1 = 2 ^ lPn l by omega, lN_1]
    refine m_many hG.2.2.1.1 ?_
    rw [e1]
    rw [Nat.sub_self] at h
    refine br_t (nI_le (Nat.le_refl _) (by omega)) (nm_e (hno ?_))
    rw [hg, if_pos (show frs (cS l e net to) (2 ^ lPn l - 1) 1 = 0 from h.symm)]
  · intro f s _ hs h ih
    show b_X12_findsSet_81 N k2 (w_X12_findsSet_81 N k2 Q f) Q (lN net) (lN to) (nI (gnM l e net to)) (nI (s + 1)) μ
    unfold b_X12_findsSet_81
    rw [lN_1, nI_1, bdfI]
    have hbl : bdf (s + 1) (gnM l e net to) < 2 ^ 6 := bdf_lt (by omega)
    have z32 : (nI (bdf (s + 1) (gnM l e net to)) = 0 ↔ bdf (s + 1) (gnM l e net to) = 0) := by rw [show (0 : Int32) = nI 0 from rfl, nI_eq (by omega) (by omega)]
    rw [show 2 ^ lPn l - 1 - s = (2 ^ lPn l - 1 - (s + 1)) + 1 by omega, frs] at h
    have go : cS l e net to (s + 1) = false → w_X12_findsSet_81 N k2 Q f (lN net) (lN to) (nI (gnM l e net to)) (nI (s + 1 + 1)) μ := fun hf => by
      rw [hf, if_neg (by decide)] at h
      exact ih () h
    refine m_many hG.2.2.1.1 ?_
    rw [e1, z32]
    refine br_f (nI_ge (by omega) (by omega)) ⟨fun q => nm_e (hno ?_), fun q => ⟨fun q2 => ?_, fun q2 => nm_e (go ?_)⟩⟩
    · have q : gnM l e net to = 0 := (nI_eq (b := 0) (by omega) (by omega)).mp q
      have hz : frs (cS l e net to) (2 ^ lPn l - 1) 1 = 0 := frs_no _ _ (fun j h1 h2 => by
        unfold cS
        rw [q]
        have : ¬ bdf j 0 = 0 := fun h => by
          have := sub_le_of h
          omega
        rw [decide_eq_false this, Bool.false_and])
      rw [hg, if_pos hz]
    · refine m_canMake hN hG hn ht (by omega) ?_
      cases hc : canM l net to (s + 1) with
      | false => exact br_t rfl (nm_e (go (by unfold cS; rw [hc, Bool.and_false])))
      | true =>
        have hcs : cS l e net to (s + 1) = true := by unfold cS; rw [hc, decide_eq_true q2]; rfl
        rw [hcs, if_pos rfl] at h
        rw [← h, if_neg (by omega)] at hg
        rw [hg] at hyes
        exact br_f (by decide) (m_finds (s := 5) h0 hG (fun ω w0 w1 w2 => hyes ω w0 w1 rfl w2))
    · unfold cS; rw [decide_eq_false q2, Bool.false_and]
theorem m_findsSet {net : Nat} (hN : 1100 < N) (hG : mG μ l e) (hw : nowI μ l e net) (h5 : lPn l ≤ 5) (hn : net < 2 ^ lPc l) (hQ : ∀ τ, mF3 μ τ → mG τ l e → mO τ (fstO (gset l e net) (2 ^ lPc l) 0) → Q (b32 (fstO (gset l e net) (2 ^ lPc l) 0).isSome) τ) : w_X12_findsSet N (lN net) μ Q := by
  have h10 := hG.1.1
  have h45 := net45 h10 hn
  have hpc : lPc l ≤ 10 := tri_mono (b := 5) h5
  have h2p : 2 ^ lPc l ≤ 1024 := p2le hpc
  have e1 : (1 : Int64) <<< ((nI (lPn l * (lPn l - 1) / 2)).toInt64 &&& 63) = lN (2 ^ lPc l) := oneJ (by show lPc l < 63; omega)
  refine loopU (S := zSt) (fun f m υ => w_X12_findsSet_2 N Q f (lN net) (lN m) υ) (fun m υ => mF3 μ υ ∧ mG υ l e ∧ fstO (gset l e net) (2 ^ lPc l - m) m = fstO (gset l e net) (2 ^ lPc l) 0) (2 ^ lPc l) ?_ ?_ N 0 μ (Nat.zero_le _) (by omega) ⟨fr_r, hG, rfl⟩
  · intro f υ ⟨u0, u1, u3⟩
    show b_X12_findsSet_2 N (w_X12_findsSet_2 N Q f) Q (lN net) (lN (2 ^ lPc l)) υ
    unfold b_X12_findsSet_2
    refine m_pairs u1.2.2.1.1 h10 ?_
    rw [e1]
    have hz := fst_e u3
    rw [hz] at hQ
    exact br_t ((lg_cmp_ge _ _).mpr (Int64.le_refl _)) (hQ υ u0 u1 mO_n)
  · intro f m υ hm ⟨u0, u1, u3⟩ ih
    show b_X12_findsSet_2 N (w_X12_findsSet_2 N Q f) Q (lN net) (lN m) υ
    unfold b_X12_findsSet_2
    have m45 := net45 h10 hm
    rw [lN_1]
    refine m_pairs u1.2.2.1.1 h10 ?_
    rw [e1]
    refine br_f (fun q => ?_) ⟨fun q => nm_e ?_, fun q => m_may (by omega) u1 hm ⟨fun q2 => nm_e ?_, fun q2 => ?_⟩⟩
    · rw [lg_cmp_ge, pk_lLE (by omega) (by omega)] at q; omega
    · have q : m = net := (fb_lN_inj (by omega) (by omega)).mp ((lg_cmp_eq _ _).mp q)
      exact ih υ ⟨u0, u1, fst_n hm (by unfold gset; rw [if_neg (fun c => c.2 q)]) u3⟩
    · exact ih υ ⟨u0, u1, fst_n hm (by unfold gset; rw [if_neg (fun c => by rw [b32_0.mp q2] at c; exact absurd c.1 (by decide))]) u3⟩
    · have q : m ≠ net := fun z => q ((lg_cmp_eq _ _).mpr (by rw [z]))
      have hmy : mayv l m = true := by
        cases h : mayv l m with
        | true => rfl
        | false => exact absurd (b32_0.mpr h) q2
      refine loopU (S := zSt) (fun g p τ => w_X12_findsSet_36 N (w_X12_findsSet_2 N Q f) Q g (lN net) (lN m) (nI (msk (fun p => gnB l e net m p) p)) (nI p) τ) (fun p τ => mF3 μ τ ∧ mG τ l e) (lPn l) ?_ ?_ N 0 υ (Nat.zero_le _) (by omega) ⟨u0, u1⟩
      · intro g ω ⟨w0, w1⟩
        show b_X12_findsSet_36 N (w_X12_findsSet_2 N Q f) (w_X12_findsSet_36 N (w_X12_findsSet_2 N Q f) Q g) Q (lN net) (lN m) (nI (msk (fun p => gnB l e net m p) (lPn l))) (nI (lPn l)) ω
        unfold b_X12_findsSet_36
        refine m_many w1.2.2.1.1 (br_t (nI_le (Nat.le_refl _) (by omega)) ?_)
        refine m_set81 (l := l) (e := e) (net := net) (to := m) hN h5 hn hm hmy q w0 w1 (fun z => ih ω ⟨w0, w1, fst_n hm z u3⟩) (fun ψ p0 p1 p2 p3 => ?_)
        obtain ⟨x, hx⟩ := Option.isSome_iff_exists.mp p2
        have hs := (fst_s hm hx).symm.trans u3
        rw [← hs] at hQ
        rw [hx] at p3
        exact hQ ψ p0 p1 p3
      · intro g p ω hp ⟨w0, w1⟩ ih2
        show b_X12_findsSet_36 N (w_X12_findsSet_2 N Q f) (w_X12_findsSet_36 N (w_X12_findsSet_2 N Q f) Q g) Q (lN net) (lN m) (nI (msk (fun p => gnB l e net m p) p)) (nI p) ω
        unfold b_X12_findsSet_36
        have e2 : (1 : Int32) <<< (nI p &&& 31) = nI (2 ^ p) := oneI (by omega)
        have hmk : msk (fun p => gnB l e net m p) (p + 1) = msk (fun p => gnB l e net m p) p ||| (if gnB l e net m p then 2 ^ p else 0) := rfl
        rw [nI_1, e2, fa_or]
        refine m_many w1.2.2.1.1 (br_f (nI_ge hp (by omega)) (m_of hN w1 hp hm (fun ψ f1 g1 => ⟨vp_in_nI (by omega) (by decide), ?_⟩)))
        have ff := fr_t w0 (mF_3 f1)
        rw [nI_clamp (n := p) (by omega), now_3 ff hw p hp, lg_cmp_le]
        have := ih2 ψ ⟨ff, g1⟩
        refine ⟨fun z => nm_e ?_, fun z => nm_e (nm_e ?_)⟩
        · have hgg : gnB l e net m p = false := by unfold gnB; rw [decide_eq_true z]; rfl
          rw [hmk, hgg] at this
          simp only [Bool.false_eq_true, if_false, Nat.or_zero] at this
          exact this
        · have hgg : gnB l e net m p = true := by unfold gnB; rw [decide_eq_false z]; rfl
          rw [hmk, hgg] at this
          simp only [if_true] at this
          exact this
end mt
