/-! step and go of the reference -/
section ms2
variable {N : Nat} {σ τ μ ν : zSt} {tp : Nat × (Nat → Nat)} {fa : Int32 × Int32} {l : zL} {net : Nat} {x : Int32} {ba rg : Nat → Int64} {ls : Nat × (Nat → Int64)} {cm : Nat × (Nat → Int64) × (Nat → Int32)} {li : Int64} {oc : Nat → Int32}
theorem M_stp111 {s : Int32} {i j : Nat} {Q : Int32 → zSt → Prop} (h : MR μ tp fa l net x ba rg ls cm li oc) (hi : i < 45) (hd : μ.2.2.1 14 i = nI j) (hj : j < lPc l) (e1 : stpA l x net s = nI j) (hQ : ∀ ν, MR ν tp fa l (stpT l x net s) x ba rg ls cm li oc → Q (stpA l x net s) ν) : b_X12_step_111 N Q (nI i) μ := by
  obtain ⟨b1, b2, b3, b4, b5, b6, b7, b8, b9, b10, b11, b12⟩ := id h
  have hpc := pc_le b3.1.1
  have n2 : ¬ (nI j = -1 ∨ nI j = -2) := fun z => by
    rcases z with z | z
    · exact m1_ne (by omega) z
    · rw [fa_eq, nI_toInt (by omega)] at z
      have : (-2 : Int32).toInt = -2 := by decide
      omega
  unfold stpT at hQ
  rw [e1, if_neg n2, nI_clamp (by omega)] at hQ
  unfold b_X12_step_111
  rw [nI_clamp (n := i) (by omega), hd]
  refine ⟨vp_in_nI hi (by decide), nm_e (nm_e ?_)⟩
  rw [b6.2, oneJ (by omega), fb_xorL]
  exact hQ _ ⟨b1, b2, mG_fr (I := []) (J := [0]) (A := []) (B := []) (fr_J fr_r (by decide)) (notin rfl) (by decide) (notin rfl) (notin rfl) b3, b4, b5, ⟨Nat.xor_lt_two_pow b6.1 (p2lt hj), zJ_2s⟩, b7, b8, b9, b10, b11, b12⟩
theorem M_step {s : Int32} {Q : Int32 → zSt → Prop} (hN : 1100 < N) (h : MR μ tp fa l net x ba rg ls cm li oc) (hQ : ∀ ν, MR ν tp fa l (stpT l x net s) x ba rg ls cm li oc → Q (stpA l x net s) ν) : w_X12_step N s μ Q := by
  obtain ⟨b1, b2, b3, b4, b5, b6, b7, b8, b9, b10, b11, b12⟩ := id h
  have h10 := b3.1.1
  have hpc := pc_le h10
  have he := ex_ok2 b5.1
  have hcl : mvc l (fun _ => x) net (lPc l) ≤ 45 := Nat.le_trans (fb_ct_le _ _) hpc
  unfold w_X12_step
  rw [b6.2]
  refine ⟨fun q => ?_, fun q => ?_⟩
  · have hst : stpA l x net s = if s = -1 then stI l (fun _ => x) net else if mvc l (fun _ => x) net (lPc l) = 0 then -1 else nI (kthP l (fun _ => x) net (drwN l (fun _ => x) net s.toNatClampNeg)) := by unfold stpA; rw [if_pos q]
    refine m_begins hN b3 b6.1 (fun τ0 f0 g0 w0 => ?_)
    have hX0 := MR_s (mS_4 f0) g0 h
    have none_ : ∀ ν, MR ν tp fa l net x ba rg ls cm li oc → stpA l x net s = -1 → Q (-1) ν := fun ν hν e1 => by
      unfold stpT at hQ
      rw [e1, if_pos (Or.inl rfl)] at hQ
      exact hQ ν hν
    have e68 : ∀ (υ : zSt) (c : Nat), MR υ tp fa l net x ba rg ls cm li oc → c ≤ 45 → (c = 0 → stpA l x net s = -1) → (s = -1 → c ≠ 0 → ∃ j, j < lPc l ∧ υ.2.2.1 14 0 = nI j ∧ stpA l x net s = nI j) → (¬ s = -1 → c ≠ 0 → c = mvc l (fun _ => x) net (lPc l) ∧ ∀ i, i < lPc l → movB l (fun _ => x) net i = true → υ.2.2.1 14 (mvc l (fun _ => x) net i) = nI i) → b_X12_step_68 N Q s (nI c) υ := by
      intro υ c hυ hc p0 p1 p2
      unfold b_X12_step_68
      refine ⟨fun z => none_ υ hυ (p0 ((nI_eq (b := 0) (by omega) (by omega)).mp z)), fun z v1 hv1 => ⟨fun z2 => ?_, fun z2 => ?_⟩⟩
      · have z : c ≠ 0 := fun w => z (by rw [w]; rfl)
        obtain ⟨j, j1, j2, j3⟩ := p1 z2 z
        exact M_stp111 (i := 0) hυ (by omega) j2 j1 j3 hQ
      · have z : c ≠ 0 := fun w => z (by rw [w]; rfl)
        obtain ⟨c1, c2⟩ := p2 z2 z
        have q0 : ¬ s < 0 := fun z => z2 (by
          rw [fa_le] at q
          rw [fa_lt] at z
          rw [fa_eq]
          have e1 : (-1 : Int32).toInt = -1 := by decide
          have e2 : (0 : Int32).toInt = 0 := by decide
          omega)
        obtain ⟨sn, hsn, es⟩ := nI_of q0
        rw [es] at hv1
        rw [draw_x hsn (by omega) hc v1 hv1]
        have hlt : drwN l (fun _ => x) net sn < mvc l (fun _ => x) net (lPc l) := Nat.mod_lt _ (by omega)
        have hkk := kth_at hlt c2
        rw [if_neg z2, if_neg (by omega), es, nI_clamp hsn] at hst
        refine ⟨?_, ?_⟩
        · rw [nI_l (by omega)]
          intro w
          have := (fb_lN_inj (b := 0) (by omega) (by omega)).mp w
          omega
        · rw [c1]
          exact M_stp111 (i := drwN l (fun _ => x) net sn) hυ (by omega) hkk.1 hkk.2 (by rw [es]; exact hst) hQ
    refine loopU (S := zSt) (fun f k τ => w_X12_step_20 N Q f s (nI (mvc l (fun _ => x) net k)) (nI k) τ) (fun k τ => fr [15, 18, 19] [1] [12, 13, 14] [2, 3] τ0 τ ∧ mG τ l (fun _ => x) ∧ nowI τ l (fun _ => x) net ∧ (∀ i, i < k → movB l (fun _ => x) net i = true → τ.2.2.1 14 (mvc l (fun _ => x) net i) = nI i) ∧ (s = -1 → mvc l (fun _ => x) net k = 0 ∨ ∃ j, j < k ∧ τ.2.2.1 14 0 = nI j ∧ stI l (fun _ => x) net = nI j)) (lPc l) ?_ ?_ N 0 τ0 (Nat.zero_le _) (by omega) ⟨fr_r, g0, w0, fun i hi => absurd hi (Nat.not_lt_zero _), fun _ => Or.inl rfl⟩
    · intro f τ ⟨t0, t1, tw0, t2, t3⟩
      show b_X12_step_20 N (w_X12_step_20 N Q f) Q s (nI (mvc l (fun _ => x) net (lPc l))) (nI (lPc l)) τ
      unfold b_X12_step_20
      have hX : MR τ tp fa l net x ba rg ls cm li oc := MR_s (fr_w t0 (subl rfl) (subl rfl) (subl rfl) (subl rfl)) t1 hX0
      refine m_pairs t1.2.2.1.1 h10 (br_t (nI_le (Nat.le_refl _) (by omega)) (e68 τ _ hX hcl (fun z => ?_) (fun z z2 => ?_) (fun z z2 => ⟨rfl, t2⟩)))
      · rw [hst]
        by_cases w : s = -1
        · rw [if_pos w]
          unfold stI stp
          rw [first_no (fun j hj => (fb_ct_zero.mp z) j hj), if_neg (Nat.lt_irrefl _)]
        · rw [if_neg w, if_pos z]
      · rcases t3 z with w | ⟨j, j1, j2, j3⟩
        · exact absurd w z2
        · exact ⟨j, j1, j2, by rw [hst, if_pos z]; exact j3⟩
    · intro f k τ hk ⟨t0, t1, tw0, t2, t3⟩ ih
      show b_X12_step_20 N (w_X12_step_20 N Q f) Q s (nI (mvc l (fun _ => x) net k)) (nI k) τ
      unfold b_X12_step_20
      have hX : MR τ tp fa l net x ba rg ls cm li oc := MR_s (fr_w t0 (subl rfl) (subl rfl) (subl rfl) (subl rfl)) t1 hX0
      have hmk : mvc l (fun _ => x) net k ≤ k := fb_ct_le _ _
      have hmc : mvc l (fun _ => x) net (k + 1) = mvc l (fun _ => x) net k + if movB l (fun _ => x) net k then 1 else 0 := rfl
      have e37 : (s = -1 → mvc l (fun _ => x) net k = 0) → b_X12_step_37 N (w_X12_step_20 N Q f) Q s (nI (mvc l (fun _ => x) net k)) (nI k) τ := fun hz => by
        unfold b_X12_step_37
        rw [hX.2.2.2.2.2.1.2]
        refine m_isStep hN t1 he tw0 hk b6.1 (fun υ f1 g1 => ?_)
        have ff := fr_t t0 (fr_w f1 (subl rfl) (subl rfl) (subl rfl) (subl rfl))
        cases hm : movB l (fun _ => x) net k with
        | false =>
          rw [hm] at hmc
          refine br_t rfl (nm_e ?_)
          rw [nI_1]
          have := ih υ ⟨ff, g1, now_F f1 tw0, fun i hi hmi => ?_, fun z => Or.inl (by rw [hmc]; exact hz z)⟩
          · rw [hmc] at this; exact this
          · have : i ≠ k := fun z => by rw [z, hm] at hmi; exact absurd hmi (by decide)
            rw [f1.2.2.1 14 (by decide)]; exact t2 i (by omega) hmi
        | true =>
          rw [hm] at hmc
          refine br_f (show ¬ (1 : Int32) = 0 by decide) ⟨vp_in_nI (by omega) (by decide), nm_e (nm_e (nm_e ?_))⟩
          rw [nI_1, nI_1, nI_clamp (n := mvc l (fun _ => x) net k) (by omega)]
          have fz : fr [] [] [14] [] υ (zA υ 14 (upd (υ.2.2.1 14) (mvc l (fun _ => x) net k) (nI k))) := fr_A fr_r (by decide)
          have := ih (zA υ 14 (upd (υ.2.2.1 14) (mvc l (fun _ => x) net k) (nI k))) ⟨fr_A ff (by decide), mG_fr fz (notin rfl) (by decide) (notin rfl) (notin rfl) g1, fun p hp => now_F f1 tw0 p hp, fun i hi hmi => ?_, fun z => Or.inr ⟨k, Nat.lt_succ_self _, ?_, ?_⟩⟩
          · rw [hmc] at this; exact this
          · rw [zA_3s]
            by_cases z : i = k
            · subst z; rw [pk_us]
            · have hne : mvc l (fun _ => x) net i ≠ mvc l (fun _ => x) net k := fun w => z (fb_ct_kth_one (p := fun k => movB l (fun _ => x) net k) hmi hm w)
              rw [pk_un hne, f1.2.2.1 14 (by decide)]; exact t2 i (by omega) hmi
          · rw [zA_3s, hz z, pk_us]
          · unfold stI stp
            have hz2 := fb_ct_zero.mp (hz z)
            rw [first_is hk hm (fun j hj => hz2 j hj), if_pos hk]
      refine m_pairs t1.2.2.1.1 h10 (br_f (nI_ge hk (by show lPc l < 2 ^ 31; omega)) ⟨fun z => ⟨fun z2 => e37 (fun _ => (nI_eq (b := 0) (by omega) (by omega)).mp z2), fun z2 => ?_⟩, fun z => e37 (fun w => absurd w z)⟩)
      have z2 : mvc l (fun _ => x) net k ≠ 0 := fun w => z2 (by rw [w]; rfl)
      rcases t3 z with w | ⟨j, j1, j2, j3⟩
      · exact absurd w z2
      · exact e68 τ _ hX (by omega) (fun w => absurd w z2) (fun _ _ => ⟨j, by omega, j2, by rw [hst, if_pos z]; exact j3⟩) (fun w => absurd z w)
  · have e1 : stpA l x net s = -2 := by unfold stpA; rw [if_neg q]
    unfold stpT at hQ
    rw [e1, if_pos (Or.inr rfl)] at hQ
    exact hQ μ h
theorem M_go {Q : Int32 → zSt → Prop} (hN : 1100 < N) (h : MR μ tp fa l net x ba rg ls cm li oc) (hQ : ∀ ν, MR ν tp fa l (goT l x net) x ba (goG l x net) ls cm li oc → Q (wlN (goR l x net)) ν) : w_X12_go N μ Q := by
  obtain ⟨b1, b2, b3, b4, b5, b6, b7, b8, b9, b10, b11, b12⟩ := id h
  have h10 := b3.1.1
  have hpc := pc_le h10
  have he := ex_ok2 b5.1
  unfold w_X12_go
  rw [b6.2]
  refine m_goes hN b3 he b6.1 (fun τ f1 g1 hW => ?_)
  have hX := MR_s (mS_w f1) g1 h
  unfold goT goG goR at hQ
  unfold mWk at hW
  generalize wlkR l (fun _ => x) net = R at *
  obtain ⟨w1, w2, w3, w4, w5, w6, w7⟩ := hW
  obtain ⟨c1, c2, c3, c4, c5, c6, c7, c8, c9, c10, c11, c12⟩ := hX
  have key : ∀ υ : zSt, fr [25, 26] [0, 5] [] [] τ υ → υ.2.1 0 = lN (pth l (fun _ => x) net R.1) → υ.1 25 = 1 → υ.1 26 = nI R.2.1 → υ.2.1 5 = (if R.2.1 = 0 then -1 else lN (mnP (pth l (fun _ => x) net) (R.1 - R.2.1) R.2.1)) → Q (wlN R) υ := by
    intro υ f2 u1 u2 u3 u4
    refine hQ υ ⟨?_, ?_, mG_fr f2 (notin rfl) (by decide) (notin rfl) (notin rfl) c3, ?_, ?_, ⟨w4, u1⟩, ?_, Or.inr ⟨by rw [u2]; decide, ?_, ?_⟩, ?_, ?_, ?_, ?_⟩
    · unfold mTp; rw [f2.1 0 (by decide), f2.2.2.1 0 (by decide)]; exact c1
    · rw [f2.1 6 (by decide), f2.1 7 (by decide)]; exact c2
    · unfold mNm; rw [f2.2.2.2 0 (by decide)]; exact c4
    · rw [f2.1 14 (by decide), f2.1 16 (by decide)]; exact c5
    · unfold mBa; rw [f2.1 22 (by decide), f2.1 23 (by decide), f2.2.1 3 (by decide)]; exact c7
    · rw [u3]; rfl
    · rw [u4]; rfl
    · rw [f2.1 27 (by decide), f2.2.2.2 6 (by decide)]; exact c9
    · rw [f2.1 28 (by decide), f2.2.2.2 7 (by decide), f2.2.2.1 16 (by decide)]; exact c10
    · unfold mLi; rw [f2.1 29 (by decide), f2.2.1 6 (by decide)]; exact c11
    · unfold mOc; rw [f2.1 30 (by decide), f2.2.2.1 17 (by decide)]; exact c12
  refine nm_e (nm_e ?_)
  have e24 : (zI (zJ τ 0 (τ.2.1 4)) 25 1).1 24 = τ.1 24 := rfl
  rw [e24, w5]
  by_cases hr : R.2.1 = 0
  · rw [if_pos hr] at w5 ⊢
    refine br_t rfl (nm_e (nm_e ?_))
    obtain ⟨N', rfl⟩ : ∃ m, N = m + 1 := ⟨N - 1, by omega⟩
    show b_X12_go_53 (N' + 1) (w_X12_go_53 (N' + 1) Q N') Q (wlN R) 0 (zJ (zI (zI (zJ τ 0 (τ.2.1 4)) 25 1) 26 0) 5 (-1))
    unfold b_X12_go_53
    refine br_t (show (0 : Int32) ≤ 0 by decide) (key _ (fr_J (fr_I (fr_I (fr_J fr_r (by decide)) (by decide)) (by decide)) (by decide)) w3 rfl ?_ ?_)
    · show (0 : Int32) = nI R.2.1
      rw [hr]; rfl
    · rw [if_pos hr]; rfl
  · rw [if_neg hr] at w5 ⊢
    have hend : R.2.2 = true := by
      cases hb : R.2.2 with
      | true => rfl
      | false => exact absurd (w7 hb) hr
    have ew : wlN R = nI R.1 := by unfold wlN; rw [hend, if_pos rfl]
    refine br_f (m1_ne (by omega)) ?_
    rw [ew, pk_sub (by omega), show R.1 - (R.1 - R.2.1) = R.2.1 by omega]
    rw [ew] at key
    refine nm_e (nm_e ?_)
    refine loopU (S := zSt) (fun f j υ => w_X12_go_53 N Q f (nI R.1) (nI j) υ) (fun j υ => fr [25, 26] [0, 5] [] [] τ υ ∧ υ.2.1 0 = lN (pth l (fun _ => x) net R.1) ∧ υ.1 25 = 1 ∧ υ.1 26 = nI R.2.1 ∧ (j = 0 ∨ υ.2.1 5 = lN (mnP (pth l (fun _ => x) net) (R.1 - R.2.1) j))) R.2.1 ?_ ?_ N 0 _ (Nat.zero_le _) (by omega) ⟨fr_J (fr_I (fr_I (fr_J fr_r (by decide)) (by decide)) (by decide)) (by decide), w3, rfl, rfl, Or.inl rfl⟩
    · intro f υ ⟨u0, u1, u2, u3, u4⟩
      show b_X12_go_53 N (w_X12_go_53 N Q f) Q (nI R.1) (nI R.2.1) υ
      unfold b_X12_go_53
      rw [u3]
      refine br_t (nI_le (Nat.le_refl _) (by omega)) (key υ u0 u1 u2 u3 ?_)
      rw [if_neg hr]
      exact u4.resolve_left hr
    · intro f j υ hj ⟨u0, u1, u2, u3, u4⟩ ih
      show b_X12_go_53 N (w_X12_go_53 N Q f) Q (nI R.1) (nI j) υ
      unfold b_X12_go_53
      have u24 : υ.1 24 = nI (R.1 - R.2.1) := (u0.1 24 (by decide)).trans w5
      have hv : vp_in (nI (R.1 - R.2.1 + j)) 201 := vp_in_nI (by omega) (by decide)
      have u5 : υ.2.2.2 5 (R.1 - R.2.1 + j) = lN (pth l (fun _ => x) net (R.1 - R.2.1 + j)) := by rw [u0.2.2.2 5 (by decide)]; exact (w6 _ (by omega)).1
      have hb1 := net45 h10 (w6 (R.1 - R.2.1 + j) (by omega)).2
      rw [u3, u24, nI_add, nI_clamp (n := R.1 - R.2.1 + j) (by omega), u5, nI_1]
      have put : pth l (fun _ => x) net (R.1 - R.2.1 + j) = mnP (pth l (fun _ => x) net) (R.1 - R.2.1) (j + 1) → b_X12_go_84 N (w_X12_go_53 N Q f) Q (nI R.1) (nI j) υ := fun ee => by
        unfold b_X12_go_84
        rw [u24, nI_add, nI_clamp (n := R.1 - R.2.1 + j) (by omega), u5, nI_1]
        exact ⟨hv, nm_e (nm_e (ih _ ⟨fr_J u0 (by decide), u1, u2, u3, Or.inr (by rw [zJ_2s, ee])⟩))⟩
      refine br_f (nI_ge hj (by omega)) ⟨fun z => ?_, fun z => ⟨hv, ?_⟩⟩
      · have z : j = 0 := (nI_eq (b := 0) (by omega) (by omega)).mp z
        refine put ?_
        subst z
        rw [mnP]
        show pth l (fun _ => x) net (R.1 - R.2.1) = if pth l (fun _ => x) net (R.1 - R.2.1) < pth l (fun _ => x) net (R.1 - R.2.1) then _ else pth l (fun _ => x) net (R.1 - R.2.1)
        rw [if_neg (Nat.lt_irrefl _)]
      · have z : j ≠ 0 := fun w => z (by rw [w]; rfl)
        have u5' := u4.resolve_left z
        have hb2 : mnP (pth l (fun _ => x) net) (R.1 - R.2.1) j < 2 ^ 45 := by
          cases j with
          | zero => exact absurd rfl z
          | succ i =>
            rw [mnP]
            have hb3 : mnP (pth l (fun _ => x) net) (R.1 - R.2.1) i < 2 ^ 45 := mnP_lt i (fun q hq => net45 h10 (w6 _ (by omega)).2)
            by_cases c : pth l (fun _ => x) net (R.1 - R.2.1 + i) < mnP (pth l (fun _ => x) net) (R.1 - R.2.1) i
            · rw [if_pos c]; exact net45 h10 (w6 _ (by omega)).2
            · rw [if_neg c]; exact hb3
        rw [u5', lg_cmp_ge, pk_lLE (by omega) (by omega)]
        refine ⟨fun w => nm_e (ih υ ⟨u0, u1, u2, u3, Or.inr ?_⟩), fun w => put ?_⟩
        · rw [u5', mnP, if_neg (by omega)]
        · rw [mnP, if_pos (by omega)]
end ms2
