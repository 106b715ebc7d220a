/-! the reference reads parts, products, sums -/
section mt
variable {N : Nat} {Q : zSt → Prop} {x1 : Int32} {tp : Nat × (Nat → Nat)} {μ ν υ : zSt} {s u : zP} {St L : List Nat} {b m d : Nat} {S : zP → zE}
def mSum (N : Nat) (Q : zSt → Prop) (x1 : Int32) (tp : Nat × (Nat → Nat)) (S : zP → zE) (d : Nat) : Prop := ∀ μ s St b m, mK μ tp s St b → lvl St b m → nhd [1, 2, 3, 4] St → 7 ≤ d + s.2.2.1 → mC μ (S s) (fun u υ => ∀ L, (∀ v, v ∈ L → v < 4) → mKp υ tp u L St b → nop tp u → PC N Q x1 tp u υ) (FF Q x1) → PO N Q x1 tp s μ
theorem bd_ok (r : zE) : bdP r (fun w => .ok w) = r := by cases r <;> rfl
theorem nhd_g (h1 : 5 ≤ m) (h : m < 100) : nhd [1, 2, 3, 4] (m :: St) := fun v S' e => by
  injection e with e1 e2
  subst e1
  refine ⟨fun z => ?_, h⟩
  simp only [List.mem_cons, List.not_mem_nil, or_false] at z
  omega
/-- a comma, or a fault -/
theorem m_cm {P : List Nat} {A : zP → zSt → Prop} (hN : 1100 < N) (hP : ∀ v, v ∈ P → v < 4) (h : mKp μ tp u P (m :: St) b) (hb : b ≤ St.length) (hm : m = 21 ∨ m = 22) (hn : nop tp u) (hC : mC μ (tsP tp 44 u) A (FF Q x1)) (hA : ∀ w ν, w = nxP tp u → mK ν tp w ((m + 2) :: St) b → A w ν → PO N Q x1 tp w ν) : PC N Q x1 tp u μ := by
  obtain ⟨c, hc, hk⟩ := h
  have h8 := hk.1.1
  have hle : u.1 ≤ tp.1 := hk.2.1.1
  have hlv : lvl (m :: St) b m := Or.inr ⟨by omega, by omega, St, rfl, hb⟩
  intro f g hf hg
  refine m_c0 hN hk hlv (P20 hP) (by omega) (fun _ => by omega) (fun ν f1 k1 => m_118n hN k1 hlv (P20 hP) hn (fun e => by omega) (fun _ ν2 f2 k2 => ?_) (fun e => by omega))
  unfold b_X12_goesOn_322
  refine m_asksSign (c := 44) hN sg44 k2.1 k2.2.1 (fun e ν3 f3 b3 => ?_) (fun e ν3 f3 p3 => ?_)
  · have e : iS tp 44 u = false := e
    have hts : tsP tp 44 u = .error (1, sT tp u.1) := by unfold tsP; rw [if_neg (by rw [e]; decide)]; rfl
    rw [hts] at hC
    have hbc : mBc ν3 (1, sT tp u.1) 1 := mBc_k k2 (fr_w f3 (subl rfl) (subl rfl) (subl rfl) (subl rfl)) b3 (show 1 ≤ 1 ∧ 1 ≤ 5 by decide)
    exact br_f (mBc_n hbc) (gK_f hN (by omega) hbc (hC.2 _ ν3 rfl (mFr_t f1 (mFr_t f2 (mFr_f f3 (subl rfl)))) hbc))
  · have e : iS tp 44 u = true := e
    have n1 := nx_gt h8 (iS_n e)
    have hts : tsP tp 44 u = .ok (nxP tp u) := by unfold tsP; rw [if_pos e]; rfl
    rw [hts] at hC
    have k3 := mK_nx (f1_13 f3) k2 p3
    refine br_t k3.2.1.2.1 (m_toMark hN hlv hP k3 (fun ν4 f4 k4 => ?_))
    have hbd := mK_bd k4
    have hbd : (emL P (nxP tp (u.1, u.2.1, u.2.2.1, c))).2.2.2.length + (St.length + 1) ≤ 800 := hbd
    have ek : emL P (nxP tp (u.1, u.2.1, u.2.2.1, c)) = nxP tp u := by rw [emL_n, mKp_e hc]
    rw [ek] at k4
    obtain ⟨a1, a2, a3, ⟨a4, a41, a42⟩, a5, a6, a7⟩ := k4
    have a4 : ν4.1 10 = nI (St.length + 1) := a4
    have hv : vp_in (nI St.length) 900 := vp_in_nI (by omega) (by decide)
    rw [a4, nI_pred, nI_clamp (n := St.length) (by omega), a41, show nI m + (2 : Int32) = nI (m + 2) from nI_add m 2]
    refine ⟨hv, hv, nm_e ?_⟩
    have k5 : mK (zA ν4 11 (upd (ν4.2.2.1 11) St.length (nI (m + 2)))) tp (nxP tp u) ((m + 2) :: St) b := ⟨a1, a2, a3, ⟨a4, wtk_p a42⟩, a5, a6, a7⟩
    have F5 : mFr μ (zA ν4 11 (upd (ν4.2.2.1 11) St.length (nI (m + 2)))) := mFr_t f1 (mFr_t f2 (mFr_t (f13_m (f1_13 f3)) (mFr_t f4 ⟨fr_A fr_r (by decide), fun _ _ => rfl⟩)))
    have ho := hA _ _ rfl k5 (hC.1 _ _ rfl F5)
    refine ⟨fun z => absurd z (by decide), fun _ => sums_o (u := nxP tp u) hN h8 (by omega) (mK_le k5) (by have := kT_n0 (iS_n e); have := sT_ge tp u.1; omega) k5.2.1.2.1 ho ?_⟩
    have h1 := kT_n0 (iS_n e)
    have h2 := sT_ge tp u.1
    omega
theorem m_choice {v f g : Nat} (hN : 1100 < N) (hS : mSum N Q x1 tp S d) (hG : gS tp S dS true d) (hv : v = 4 ∧ wS tp s = 17 ∨ v = 5 ∧ wS tp s = 18) (h : mK μ tp s St b) (hb : b ≤ St.length) (hd : 7 ≤ d + 1 + s.2.2.1) (hf : tp.1 < f + s.1) (hg : tp.1 + 1 < g + 1 + s.1) (hC : mC μ (chP tp S v s) (fun u ν => mK ν tp u St b → PC N Q x1 tp u ν) (FF Q x1)) : b_X12_onePart_69 N (w_X12_onePart_2 N (oK N Q x1 f) g) (oK N Q x1 f) (1 : Int32) μ := by
  have h8 := h.1.1
  have hle := mK_le h
  have hw : wS tp s < 19 := by omega
  obtain ⟨hlt, hk0⟩ := wS_lt (tp := tp) (s := s) hw rfl
  have n1 := nx_gt h8 hk0
  have hb8 := mTp_b h.1
  unfold chP at hC
  -- behind the word
  have next : ∀ (x : Int32), (x = 0 ↔ v = 5) → ∀ ν, mFr μ ν → mK ν tp (nxP tp s) St b → b_X12_onePart_90 N (w_X12_onePart_2 N (oK N Q x1 f) g) (oK N Q x1 f) (1 : Int32) x ν := fun x hx ν f1 k1 => by
    unfold b_X12_onePart_90
    refine m_look hN k1.1 k1.2.1 (fun ν2 f2 a2 p2 => ?_)
    have k2 := mK_lk f2 k1 p2
    have F2 := mFr_t f1 (f13_m (f1_13 f2))
    rw [show (40 : Int32) = nI 40 from rfl, chI_c hb8 (by decide)]
    refine ⟨fun z => ?_, fun z => ?_⟩
    · have hi : iS tp 40 (nxP tp s) = true := (sg_i sg40).mpr z
      rw [if_pos hi] at hC
      unfold chP2 at hC
      have hk1 := iS_n hi
      have n2 := nx_gt h8 hk1
      have a2' : ν2.1 1 = nI (sT tp (nxP tp s).1) := a2
      have hsl := sT_le (mK_le k2)
      have go : ∀ w : Nat, w = 21 ∧ v = 4 ∨ w = 22 ∧ v = 5 → b_X12_onePart_127 N (w_X12_onePart_2 N (oK N Q x1 f) g) (oK N Q x1 f) (1 : Int32) (nI (sT tp (nxP tp s).1)) (nI w) ν2 := fun w hwv => by
        unfold b_X12_onePart_127 b_X12_onePart_132
        refine m_opens (v := w) hk1 k2 (fun ho ν3 f3 e3 p3 mk => ?_) (fun ho ν3 f3 b3 => ?_)
        · have T3 : mTape ν3 tp := mTp_f f3.1 (by decide) (by decide) k2.1
          have htoe : toP tp (nxP tp s) = .ok (nxP tp (upP (nxP tp s))) := by unfold toP; rw [if_pos ho]
          rw [htoe] at hC
          refine m_asksSign (c := 40) hN sg40 T3 p3 (fun e => absurd hi (by rw [show iS tp 40 (nxP tp s) = false from e]; decide)) (fun e ν4 f4 p4 => ?_)
          have k4 := mk ν4 (f1_13 f4) p4
          have F4 := mFr_t F2 (mFr_t f3 (f13_m (f1_13 f4)))
          have hC2 : mC ν4 (bdP (S (nxP tp (upP (nxP tp s)))) fun s => bdP (tsP tp 44 s) fun s => bdP (S s) fun s => bdP (tsP tp 41 s) fun s => .ok (emP v s)) _ _ := mC_t F4 hC
          have ho6 : s.2.2.1 < 6 := ho
          -- the first sum
          have po : PO N Q x1 tp (nxP tp (upP (nxP tp s))) ν4 := by
            refine hS ν4 _ (w :: St) b w k4 (Or.inr ⟨by omega, by omega, St, rfl, hb⟩) (nhd_g (by omega) (by omega)) (by show 7 ≤ d + (s.2.2.1 + 1); omega) (mC_b hC2 (fun s3 ν5 e5 f5 q5 P hP kp hn => ?_))
            have g3 := gE_o (hG (nxP tp (upP (nxP tp s))) (by show 7 ≤ d + (s.2.2.1 + 1); omega) (by show s.2.2.1 + 1 ≤ 6; omega)) e5
            have o3 : s3.2.2.1 = s.2.2.1 + 1 := g3.2.1
            refine m_cm hN hP kp hb (by omega) hn (mC_b q5 (fun s4 ν6 e6 f6 q6 => q6)) (fun s4 ν6 e4 k6 q6 => ?_)
            rw [e4] at q6 k6 ⊢
            refine hS ν6 _ ((w + 2) :: St) b (w + 2) k6 (Or.inr ⟨by omega, by omega, St, rfl, hb⟩) (nhd_g (by omega) (by omega)) (by show 7 ≤ d + s3.2.2.1; omega) (mC_b q6 (fun s5 ν7 e7 f7 q7 P' hP' kp' hn' => ?_))
            have g5 := gE_o (hG (nxP tp s3) (by show 7 ≤ d + s3.2.2.1; omega) (by show s3.2.2.1 ≤ 6; omega)) e7
            have o5 : s5.2.2.1 = s3.2.2.1 := g5.2.1
            have ev : (fun w' : zP => (.ok (if w + 2 = 20 then w' else emP (if w + 2 = 23 then 4 else 5) w') : zE)) = fun s => .ok (emP v s) := by
              funext w'
              rw [if_neg (by omega)]
              rcases hwv with z | z
              · rw [if_pos (by omega), z.2]
              · rw [if_neg (by omega), z.2]
            refine m_cl hN hP' kp' hb (by omega) hn' (by omega) (A := fun u ν => mK ν tp u St b → PC N Q x1 tp u ν) ?_ (fun w' ν8 k8 q8 => q8 k8)
            rw [ev]; exact q7
          exact po f g (by show tp.1 < f + (nxP tp (nxP tp s)).1; omega) (by show tp.1 + 1 < g + (nxP tp (nxP tp s)).1; omega)
        · have htoe : toP tp (nxP tp s) = .error (4, sT tp (nxP tp s).1) := by unfold toP; rw [if_neg ho]; rfl
          rw [htoe] at hC
          have hbc : mBc ν3 (4, sT tp (nxP tp s).1) 1 := mBc_k k2 (fr_w f3 (subl rfl) (subl rfl) (subl rfl) (subl rfl)) b3 (show 1 ≤ 4 ∧ 4 ≤ 5 by decide)
          unfold w_X12_asksSign
          exact br_f (mBc_n hbc) (one_f hN (by omega) (by omega) hbc (hC.2 _ ν3 rfl (mFr_t F2 (mFr_f f3 (subl rfl))) hbc))
      unfold b_X12_onePart_107
      rw [a2']
      refine br_f (m1_ne (by omega)) ⟨fun y => go 22 (by have := hx.mp y; omega), fun y => go 21 (by have : ¬ v = 5 := fun q => y (hx.mpr q); omega)⟩
    · have hi : iS tp 40 (nxP tp s) = false := by
        cases e : iS tp 40 (nxP tp s) with
        | false => rfl
        | true => exact absurd ((sg_i sg40).mp e) z
      rw [if_neg (by rw [hi]; decide)] at hC
      unfold b_X12_onePart_107 b_X12_onePart_132
      refine br_t rfl (m_asksSign (c := 40) hN sg40 k2.1 k2.2.1 (fun e ν3 f3 b3 => ?_) (fun e => absurd e (by rw [show isB tp (nxP tp s).1 (nxP tp s).2.1 40 = false from hi]; decide)))
      have hbc : mBc ν3 (1, sT tp (nxP tp s).1) 1 := mBc_k k2 (fr_w f3 (subl rfl) (subl rfl) (subl rfl) (subl rfl)) b3 (show 1 ≤ 1 ∧ 1 ≤ 5 by decide)
      exact one_f hN (by omega) (by omega) hbc (hC.2 _ ν3 rfl (mFr_t F2 (mFr_f f3 (subl rfl))) hbc)
  unfold b_X12_onePart_69
  refine m_takes (w := 17) hN (by decide) h.1 h.2.1 (fun e ν1 f1 _ p1 => br_t rfl ?_) (fun e ν1 f1 p1 => br_f (by decide) (next 1 ⟨fun z => absurd z (by decide), fun z => by have e : wS tp s = 17 := e; omega⟩ ν1 (f13_m f1) (mK_nx f1 h p1)))
  have e : ¬ wS tp s = 17 := e
  have k1 := mK_lk f1 h p1
  refine m_asks (w := 18) hN (by decide) k1.1 k1.2.1 (fun e2 => absurd (show wS tp s = 18 by omega) e2) (fun e2 ν2 f2 p2 => next 0 ⟨fun _ => by omega, fun _ => rfl⟩ ν2 (mFr_t (f13_m (f1_13 f1)) (f13_m f2)) (mK_nx f2 k1 p2))
theorem m_part (hN : 1100 < N) (hS : mSum N Q x1 tp S d) (hG : gS tp S dS true d) (h : mK μ tp s St b) (hb : b ≤ St.length) (hd : 7 ≤ d + 1 + s.2.2.1) (hC : mC μ (paP tp S s) (fun u ν => mK ν tp u St b → PC N Q x1 tp u ν) (FF Q x1)) : PO N Q x1 tp s μ := by
  intro f g hf hg
  have h8 := h.1.1
  have hle := mK_le h
  have hb8 := mTp_b h.1
  obtain ⟨g', rfl⟩ : ∃ g', g = g' + 1 := ⟨g - 1, by omega⟩
  show b_X12_onePart_2 N (w_X12_onePart_2 N (oK N Q x1 f) g') (oK N Q x1 f) (1 : Int32) μ
  unfold b_X12_onePart_2
  refine br_f (by decide) (br_t h.2.1.2.1 (m_look hN h.1 h.2.1 (fun ν1 f1 a1 p1 => ?_)))
  have k1 := mK_lk f1 h p1
  have F1 := f13_m (f1_13 f1)
  have a1' : ν1.1 1 = nI (sT tp s.1) := a1
  rw [show (40 : Int32) = nI 40 from rfl, chI_c hb8 (by decide)]
  refine ⟨fun z => ?_, fun z => ?_⟩
  · have hi : iS tp 40 s = true := (sg_i sg40).mpr z
    have hk := iS_n hi
    have hk2 : ¬ kS tp s = 2 := by have := (iS_k hi).1; omega
    have n1 := nx_gt h8 hk
    unfold paP at hC
    rw [if_neg hk2, if_pos hi] at hC
    rw [a1']
    refine m_opens (v := 20) hk k1 (fun ho ν2 f2 e2 p2 mk => nm_e ?_) (fun ho ν2 f2 b2 => nm_e ?_)
    · have htoe : toP tp s = .ok (nxP tp (upP s)) := by unfold toP; rw [if_pos ho]
      rw [htoe] at hC
      have a2' : ν2.1 1 = nI (sT tp s.1) := e2.trans a1'
      have p3 := mPos_s h8 hi a2' p2 rfl
      have f3 : fr [1, 3] [] [] [] ν2 (zI ν2 1 (ν2.1 1 + 1)) := fr_I fr_r (by decide)
      have k3 := mk _ f3 p3
      have F3 := mFr_t F1 (mFr_t f2 (f13_m f3))
      have hC2 : mC (zI ν2 1 (ν2.1 1 + 1)) (bdP (S (nxP tp (upP s))) fun s => tsP tp 41 s) _ _ := mC_t F3 hC
      have po : PO N Q x1 tp (nxP tp (upP s)) (zI ν2 1 (ν2.1 1 + 1)) := by
        refine hS _ _ (20 :: St) b 20 k3 (Or.inr ⟨by decide, by decide, St, rfl, hb⟩) (nhd_g (by decide) (by decide)) (by show 7 ≤ d + (s.2.2.1 + 1); omega) (mC_b hC2 (fun s3 ν5 e5 f5 q5 P hP kp hn => ?_))
        have g3 := gE_o (hG (nxP tp (upP s)) (by show 7 ≤ d + (s.2.2.1 + 1); omega) (by show s.2.2.1 + 1 ≤ 6; omega)) e5
        have o3 : s3.2.2.1 = s.2.2.1 + 1 := g3.2.1
        refine m_cl (m := 20) hN hP kp hb (Or.inl rfl) hn (by omega) (A := fun u ν => mK ν tp u St b → PC N Q x1 tp u ν) ?_ (fun w' ν8 k8 q8 => q8 k8)
        show mC ν5 (bdP (tsP tp 41 s3) (fun w => .ok w)) _ _
        rw [bd_ok]; exact q5
      exact po f g' (by show tp.1 < f + (nxP tp s).1; omega) (by show tp.1 + 1 < g' + (nxP tp s).1; omega)
    · have htoe : toP tp s = .error (4, sT tp s.1) := by unfold toP; rw [if_neg ho]; rfl
      rw [htoe] at hC
      have hlt := kT_n0 hk
      have hge := sT_ge tp s.1
      have hbc : mBc (zI ν2 1 (ν2.1 1 + 1)) (4, sT tp s.1) 1 := mBc_k k1 (fr_I (fr_w f2 (subl rfl) (subl rfl) (subl rfl) (subl rfl)) (by decide)) b2 (show 1 ≤ 4 ∧ 4 ≤ 5 by decide)
      exact one_f hN (by omega) (by omega) hbc (hC.2 _ _ rfl (mFr_t F1 (mFr_f (I := [1, 4, 5]) (fr_I (fr_w f2 (subl rfl) (subl rfl) (subl rfl) (subl rfl)) (by decide)) (subl rfl))) hbc)
  · have hi : iS tp 40 s = false := by
      cases e : iS tp 40 s with
      | false => rfl
      | true => exact absurd ((sg_i sg40).mp e) z
    have no40 : ¬ iS tp 40 s = true := by rw [hi]; decide
    refine m_isHere (w := 17) hN (by decide) k1.1 k1.2.1 (fun ν2 f2 a2 p2 => ⟨fun z17 => ?_, fun z17 => ?_⟩)
    · have z17 : ¬ wS tp s = 17 := of_decide_eq_false (b32_0.mp z17)
      have k2 := mK_lk f2 k1 p2
      have F2 := mFr_t F1 (f13_m (f1_13 f2))
      refine m_isHere (w := 18) hN (by decide) k2.1 k2.2.1 (fun ν3 f3 a3 p3 => ⟨fun z18 => ?_, fun z18 => ?_⟩)
      · have z18 : ¬ wS tp s = 18 := of_decide_eq_false (b32_0.mp z18)
        have k3 := mK_lk f3 k2 p3
        have F3 := mFr_t F2 (f13_m (f1_13 f3))
        have el : paP tp S s = lfP tp s := by
          unfold paP lfP
          rw [if_neg no40, if_neg z17, if_neg z18]
          rfl
        rw [el] at hC
        obtain ⟨g2, rfl⟩ : ∃ g2, g' = g2 + 1 := ⟨g' - 1, by omega⟩
        show b_X12_onePart_2 N (w_X12_onePart_2 N (oK N Q x1 f) g2) (oK N Q x1 f) (0 : Int32) ν3
        unfold b_X12_onePart_2
        exact br_t rfl (m_leaf hN hf k3 (mC_t F3 hC))
      · have z18 : wS tp s = 18 := of_decide_eq_true (b32_n.mp z18)
        have k3 := mK_lk f3 k2 p3
        have F3 := mFr_t F2 (f13_m (f1_13 f3))
        have hk2 : ¬ kS tp s = 2 := by have := wS_k (by decide) z18; omega
        unfold paP at hC
        rw [if_neg hk2, if_neg no40, if_neg z17, if_pos z18] at hC
        exact m_choice hN hS hG (Or.inr ⟨rfl, z18⟩) k3 hb hd hf (by omega) (mC_t F3 hC)
    · have z17 : wS tp s = 17 := of_decide_eq_true (b32_n.mp z17)
      have k2 := mK_lk f2 k1 p2
      have F2 := mFr_t F1 (f13_m (f1_13 f2))
      have hk2 : ¬ kS tp s = 2 := by have := wS_k (by decide) z17; omega
      unfold paP at hC
      rw [if_neg hk2, if_neg no40, if_pos z17] at hC
      exact m_choice hN hS hG (Or.inl ⟨rfl, z17⟩) k2 hb hd hf (by omega) (mC_t F2 hC)
end mt
