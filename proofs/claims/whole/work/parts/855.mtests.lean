/-! the reference reads facts; a whole test -/
section mw
variable {N : Nat} {Q : zSt → Prop} {tp : Nat × (Nat → Nat)} {μ ν υ : zSt} {s u : zP} {St X : List Nat} {b d n : Nat} {na : Nat → Nat} {S : zP → zE} {GQ : Int32 → zSt → Prop}
/-- a fact without not and brackets -/
def ffP (tp : Nat × (Nat → Nat)) (n : Nat) (na : Nat → Nat) (s : zP) : zE := if wS tp s = 10 then .ok (nxP tp (emP 12 s)) else if wS tp s = 11 then bdP (peP tp n na 99 (nxP tp s)) fun v => .ok (nxP tp (emP (30 + v) (nxP tp s))) else cmP tp s
theorem m_factL {K : zSt → Prop} (hN : 1100 < N) (h : mK μ tp s X b) (hp : mPe μ n na) (hX : nhd [1, 2, 3, 4] X) (hC : mD μ (ffP tp n na s) (fun u ν => mK ν tp u X b → K ν) K) : w_X12_fact N μ K := by
  have h8 := h.1.1
  have h7 := h.2.2.2.2.2.2
  have hn := hp.1
  unfold ffP at hC
  unfold w_X12_fact
  refine m_takes (w := 10) hN (by decide) h.1 h.2.1 (fun e1 ν1 f1 _ p1 => br_t rfl ?_) (fun e ν1 f1 p1 => br_f (by decide) ?_)
  · have k1 := mK_lk f1 h p1
    have F1 := f13_m (f1_13 f1)
    have e1 : ¬ wS tp s = 10 := e1
    rw [if_neg e1] at hC
    refine m_takes (w := 11) hN (by decide) k1.1 k1.2.1 (fun e2 ν2 f2 _ p2 => br_t rfl ?_) (fun e ν2 f2 p2 => br_f (by decide) ?_)
    · have e2 : ¬ wS tp s = 11 := e2
      have k2 := mK_lk f2 k1 p2
      rw [if_neg e2] at hC
      exact m_cmp hN k2 hX (mD_t (mFr_t F1 (f13_m (f1_13 f2))) hC)
    · have e : wS tp s = 11 := e
      rw [if_pos e] at hC
      have n1 := nx_gt h8 (wS_lt (by decide) e).2
      have k2 := mK_nx f2 k1 p2
      have F2 := mFr_t F1 (f13_m f2)
      refine m_told (but := 99) hN (by decide) k2.1 k2.2.1 (mPe_m F2 hp) (fun k ν3 ek f3 p3 => ?_) (fun e k ν3 he hk f3 b3 => ?_)
      · have gk := gE_o (peP_k (tp := tp) (s := nxP tp s) (but := 99) (na := na) hn) ek
        have n2 := nx_gt (s := nxP tp s) h8 (by have := gk.2.2; omega)
        have hk10 := gk.1
        rw [ek] at hC
        have hg : gR (30 + k) = 100 + k := by unfold gR; rw [if_neg (by omega), if_pos (by omega)]; omega
        have k3 : mK ν3 tp (nxP tp (nxP tp s)) X b := by
          have f13 : ∀ j, j ∉ [1, 3, 8] → ν3.1 j = ν2.1 j := f3.1
          obtain ⟨a1, a2, a3, a4, a5, a6, a7⟩ := k2
          refine ⟨mTp_f f3 (by decide) (by decide) a1, p3, ⟨a3.1, ?_⟩, ⟨?_, ?_⟩, ?_, ⟨?_, ?_⟩, by show s.2.2.2.length + X.length ≤ (nxP tp (nxP tp s)).1; omega⟩
          · rw [f3.1 11 (by decide)]; exact a3.2
          · rw [f3.1 10 (by decide)]; exact a4.1
          · rw [f3.2.2.1 11 (by decide)]; exact a4.2
          · rw [f3.1 13 (by decide)]; exact a5
          · rw [f3.1 9 (by decide)]; exact a6.1
          · rw [f3.2.2.1 10 (by decide)]; exact a6.2
        rw [show (100 : Int32) + nI k = nI (gR (30 + k)) by rw [hg, show (100 : Int32) = nI 100 from rfl, nI_add]]
        exact m_code k3 (by show s.2.2.2.length + X.length < (nxP tp (nxP tp s)).1; omega) (fun ν4 f4 k4 => hC.1 _ ν4 rfl (mFr_t F2 (mFr_t (mFr_f f3 (subl rfl)) f4)) k4)
      · have ge := peP_g (tp := tp) (s := nxP tp s) (but := 99) (na := na) hn
        rw [he] at ge
        have ge : 1 ≤ e.1 ∧ e.1 ≤ 5 := ge
        rw [he] at hC
        obtain ⟨c1, c2, n', c3, c4⟩ := mBc_k (j := 0) k2 f3 b3 ge
        exact m_codeB c1 c4 (by omega) (fun ν4 f4 b4 h94 => hC.2 e ν4 rfl (mFr_t F2 (mFr_t (mFr_f f3 (subl rfl)) f4)) ⟨b4, c2, n' + 1, by omega, h94⟩)
  · have e : wS tp s = 10 := e
    rw [if_pos e] at hC
    have n1 := nx_gt h8 (wS_lt (by decide) e).2
    exact m_code (v := 12) (mK_nx f1 h p1) (by show s.2.2.2.length + X.length < _; omega) (fun ν2 f2 k2 => hC.1 _ ν2 rfl (mFr_t (f13_m f1) f2) k2)
theorem m_fact (hN : 1100 < N) (hS : mFct N Q tp n na S d) (hG : gS tp S dF false d) (h : mK μ tp s X b) (hp : mPe μ n na) (hB : bS X) (hX : nhd [1, 2, 3, 4] X) (hd : 7 ≤ d + 1 + s.2.2.1) (hC : mD μ (faP tp n na S s) (fun u ν => mK ν tp u X b → TD N Q tp u ν) Q) : TO N Q tp s μ := by
  intro f hf
  have h8 := h.1.1
  have hle := mK_le h
  have hb8 := mTp_b h.1
  have ho6 : s.2.2.1 ≤ 6 := h.2.2.1.1
  obtain ⟨f', rfl⟩ : ∃ f', f = f' + 1 := ⟨f - 1, by omega⟩
  show b_X12_test_2 N (w_X12_test_2 N Q f') Q (1 : Int32) μ
  unfold b_X12_test_2
  refine br_f (by decide) (br_t h.2.1.2.1 (m_look hN h.1 h.2.1 (fun ν1 f1 a1 p1 => ?_)))
  have k1 := mK_lk f1 h p1
  have F1 := f13_m (f1_13 f1)
  have a1' : ν1.1 1 = nI (sT tp s.1) := a1
  rw [show (91 : Int32) = nI 91 from rfl, chI_c hb8 (by decide)]
  unfold faP at hC
  refine ⟨fun z => ?_, fun z => ?_⟩
  · -- a bracket
    have hi : iS tp 91 s = true := (sg_i sg91).mpr z
    have hk := iS_n hi
    have n1 := nx_gt h8 hk
    have hlt := iS_lt hi
    have h9 : ¬ wS tp s = 9 := fun e => by rw [iS_w (by decide) e] at hi; exact absurd hi (by decide)
    rw [if_neg h9, if_pos hi] at hC
    rw [a1']
    refine m_opens (v := 25) hk k1 (fun ho ν2 f2 e2 p2 mk => nm_e ?_) (fun ho ν2 f2 b2 => nm_e ?_)
    · have htoe : toP tp s = .ok (nxP tp (upP s)) := by unfold toP; rw [if_pos ho]
      rw [htoe] at hC
      have a2' : ν2.1 1 = nI (sT tp s.1) := e2.trans a1'
      have p3 := mPos_s h8 hi a2' p2 rfl
      have f3 : fr [1, 3] [] [] [] ν2 (zI ν2 1 (ν2.1 1 + 1)) := fr_I fr_r (by decide)
      have k3 := mk _ f3 p3
      have F3 := mFr_t F1 (mFr_t f2 (f13_m f3))
      have hC2 : mD (zI ν2 1 (ν2.1 1 + 1)) (bdP (teP tp S (nxP tp (upP s))) fun s => tsP tp 93 s) _ _ := mD_t F3 hC
      have to : TO N Q tp (nxP tp (upP s)) (zI ν2 1 (ν2.1 1 + 1)) := by
        refine m_teP hN hS hG (Or.inr ⟨X, rfl⟩) (bS_c (by decide) hB) k3 (mPe_m F3 hp) (by show 7 ≤ d + (s.2.2.1 + 1); omega) (mD_b hC2 (fun s3 ν5 e5 f5 q5 P hP kp g8 g7 => ?_))
        have g3 := gE_o (teP_g (s := nxP tp (upP s)) h8 hG (by show 7 ≤ d + (s.2.2.1 + 1); omega) (by show s.2.2.1 + 1 ≤ 6; omega)) e5
        have o3 : s3.2.2.1 = s.2.2.1 + 1 := g3.2.1
        obtain ⟨c, hc, hk5⟩ := kp
        have hle5 : s3.1 ≤ tp.1 := hk5.2.1.1
        have hB5 : bS (P.map gR ++ 25 :: X) := bS_m hP (bS_c (by decide) hB)
        have h25 : 25 ∈ P.map gR ++ 25 :: X := List.mem_append.mpr (Or.inr (List.mem_cons_self ..))
        intro f6 g6 hf6 hg6
        by_cases hj : iS tp 93 s3 = true
        · have hts : tsP tp 93 s3 = .ok (nxP tp (dnP s3)) := by unfold tsP; rw [if_pos hj]; rfl
          rw [hts] at q5
          have n5 := nx_gt h8 (iS_n hj)
          obtain ⟨g7', rfl⟩ : ∃ g7', g6 = g7' + 1 := ⟨g6 - 1, by omega⟩
          show b_X12_goesOnTest_0 N (w_X12_goesOnTest_0 N (tK N Q f6) g7') (tK N Q f6) ν5
          unfold b_X12_goesOnTest_0
          refine br_t hk5.2.1.2.1 (m_look hN hk5.1 hk5.2.1 (fun ν6 f7 a6 p6 => ?_))
          have k6 := mK_lk f7 hk5 p6
          rw [show (93 : Int32) = nI 93 from rfl, chI_c hb8 (by decide)]
          refine br_t ((sg_i sg93).mp hj) (m_has hN k6 hB5 ?_)
          rw [decide_eq_true h25]
          refine br_f (by decide) (nm_e ?_)
          have p7 := mPos_s h8 (show isB tp s3.1 s3.2.1 93 = true from hj) a6 p6 rfl
          have k7 : mK (zI ν6 1 (ν6.1 1 + 1)) tp (nxP tp (s3.1, s3.2.1, s3.2.2.1, c)) (P.map gR ++ 25 :: X) b := mK_nx (fr_I fr_r (by decide)) k6 p7
          have hbd := mK_bd k7
          have hll : (P.map gR ++ 25 :: X).length = P.length + (X.length + 1) := by rw [List.length_append, List.length_map]; rfl
          refine m_33 P N _ _ (by omega) hP k7 (by show 1 ≤ s3.2.2.1; omega) (fun ν8 f8 k8 => ?_)
          have ek : dnP (emL P (nxP tp (s3.1, s3.2.1, s3.2.2.1, c))) = nxP tp (dnP s3) := by
            show nxP tp (dnP (emL P (s3.1, s3.2.1, s3.2.2.1, c))) = _
            rw [mKp_e hc]
          rw [ek] at k8
          refine q5.1 _ ν8 rfl (mFr_t (f13_m (f1_13 f7)) (mFr_t (mFr_f (I := [1]) (fr_I fr_r (by decide)) (subl rfl)) f8)) k8 f6 _ N (by show tp.1 < f6 + (nxP tp s3).1; omega) (by show s3.2.2.1 - 1 < N; omega) (fun τ _ hτ => hτ g7' (by show tp.1 < g7' + (nxP tp s3).1; omega))
        · have hts : tsP tp 93 s3 = .error (1, sT tp s3.1) := by unfold tsP; rw [if_neg hj]; rfl
          rw [hts] at q5
          refine m_t0 hN hk5 hB5 (by omega) (fun z => absurd (show iS tp 93 s3 = true from z) hj) (fun ν6 f7 k6 => m_76n hN k6 hB5 g8 g7 (fun z => absurd h25 z) (fun _ ν7 f8 b8 => ?_))
          exact tK_f hN (by omega) b8 (q5.2 _ ν7 rfl (mFr_t f7 f8) b8)
      exact to f' (by show tp.1 + 1 < f' + (nxP tp s).1; omega)
    · have htoe : toP tp s = .error (4, sT tp s.1) := by unfold toP; rw [if_neg ho]; rfl
      rw [htoe] at hC
      have hbc : mBc (zI ν2 1 (ν2.1 1 + 1)) (4, sT tp s.1) 2 := mBc_k k1 (fr_I (fr_w f2 (subl rfl) (subl rfl) (subl rfl) (subl rfl)) (by decide)) b2 (show 1 ≤ 4 ∧ 4 ≤ 5 by decide)
      exact test_f hN (by omega) hbc (hC.2 _ _ rfl (mFr_t F1 (mFr_f (I := [1, 4, 5]) (fr_I (fr_w f2 (subl rfl) (subl rfl) (subl rfl) (subl rfl)) (by decide)) (subl rfl))) hbc)
  · have no91 : ¬ iS tp 91 s = true := fun e => z ((sg_i sg91).mp e)
    refine m_isHere (w := 9) hN (by decide) k1.1 k1.2.1 (fun ν2 f2 a2 p2 => ⟨fun z9 => ?_, fun z9 => ?_⟩)
    · -- neither not nor a bracket
      have z9 : ¬ wS tp s = 9 := of_decide_eq_false (b32_0.mp z9)
      have k2 := mK_lk f2 k1 p2
      have F2 := mFr_t F1 (f13_m (f1_13 f2))
      rw [if_neg z9, if_neg no91] at hC
      refine m_factL hN k2 (mPe_m F2 hp) hX ⟨fun u ν3 e3 f3 k3 => ?_, fun e ν3 he f3 b3 => ?_⟩
      · have gu : gV (dF s.2.2.1) false s u := by
          have := faP_g (tp := tp) (s := s) (na := na) h8 hp.1 hG (by omega) ho6
          unfold faP at this
          rw [if_neg z9, if_neg no91] at this
          exact gE_o this e3
        have u1 := gu.1
        have ou : u.2.2.1 = s.2.2.1 := gu.2.1
        exact hC.1 u ν3 e3 (mFr_t F2 f3) k3 f' _ N (by omega) (by omega) (fun τ h4 hτ => ⟨fun _ => hτ N (by omega), fun q => absurd h4 q⟩)
      · have hq := hC.2 e ν3 he (mFr_t F2 f3) b3
        exact nots_f (n := N) (by omega) b3 (br_f (mBc_n b3) (test_f hN (by omega) b3 hq))
    · -- not
      have z9 : wS tp s = 9 := of_decide_eq_true (b32_n.mp z9)
      have k2 := mK_lk f2 k1 p2
      have F2 := mFr_t F1 (f13_m (f1_13 f2))
      have a2' : ν2.1 1 = nI (sT tp s.1) := a2
      obtain ⟨hlt, hk⟩ := wS_lt (by decide) z9
      have n1 := nx_gt h8 hk
      rw [if_pos z9] at hC
      rw [a2']
      refine m_opens (v := 16) hk k2 (fun ho ν3 f3 e3 p3 mk => ?_) (fun ho ν3 f3 b3 => ?_)
      · have htoe : toP tp s = .ok (nxP tp (upP s)) := by unfold toP; rw [if_pos ho]
        rw [htoe] at hC
        have T3 : mTape ν3 tp := mTp_f f3.1 (by decide) (by decide) k2.1
        refine m_asks (w := 9) hN (by decide) T3 p3 (fun e => absurd z9 e) (fun e ν4 f4 p4 => ?_)
        have k4 := mk ν4 f4 p4
        have F4 := mFr_t F2 (mFr_t f3 (f13_m f4))
        have hC2 : mD ν4 (bdP (S (nxP tp (upP s))) fun s => .ok (emP 11 (dnP s))) _ _ := mD_t F4 hC
        have to : TO N Q tp (nxP tp (upP s)) ν4 := by
          refine hS ν4 _ (16 :: X) b k4 (mPe_m F4 hp) (bS_c (by decide) hB) (nhd_c (by decide) (by decide)) (by show 7 ≤ d + (s.2.2.1 + 1); omega) (mD_b hC2 (fun s3 ν5 e5 f5 q5 k5 => ?_))
          have g3 := gE_o (hG (nxP tp (upP s)) (by show 7 ≤ d + (s.2.2.1 + 1); omega) (by show s.2.2.1 + 1 ≤ 6; omega)) e5
          have o3 : s3.2.2.1 = s.2.2.1 + 1 := g3.2.1
          exact tD_n k5 (by omega) (fun ν6 f6 k6 => q5.1 _ ν6 rfl f6 k6)
        exact to f' (by show tp.1 + 1 < f' + (nxP tp s).1; omega)
      · have htoe : toP tp s = .error (4, sT tp s.1) := by unfold toP; rw [if_neg ho]; rfl
        rw [htoe] at hC
        have hbc : mBc ν3 (4, sT tp s.1) 2 := mBc_k k2 (fr_w f3 (subl rfl) (subl rfl) (subl rfl) (subl rfl)) b3 (show 1 ≤ 4 ∧ 4 ≤ 5 by decide)
        unfold w_X12_asks
        exact br_f (mBc_n hbc) (test_f hN (by omega) hbc (hC.2 _ ν3 rfl (mFr_t F2 (mFr_f f3 (subl rfl))) hbc))
theorem m_facts (hN : 1100 < N) (h8 : tp.1 ≤ 800) (hn : n ≤ 10) : ∀ d, mFct N Q tp n na (fcP tp n na d) d
  | 0 => fun μ s X b h hp hB hX hd hC => by
    have : s.2.2.1 ≤ 6 := h.2.2.1.1
    omega
  | d + 1 => fun μ s X b h hp hB hX hd hC => by
    rw [fcP] at hC
    exact m_fact hN (m_facts hN h8 hn d) (fcP_g h8 hn d) h hp hB hX (by omega) hC
/-- at the end of a test: all is written -/
theorem m_110 : ∀ (P : List Nat) (f : Nat) (μ : zSt) (s : zP), P.length < f → mK μ tp s (P.map gR ++ []) b → (∀ ν, mFr μ ν → mK ν tp (emL P s) [] b → Q ν) → w_X12_test_110 N Q f μ
  | [], 0, _, _, hf, _, _ => absurd hf (Nat.not_lt_zero _)
  | v :: P, 0, _, _, hf, _, _ => absurd hf (Nat.not_lt_zero _)
  | [], f + 1, μ, s, hf, h, hQ => by
    show b_X12_test_110 N (w_X12_test_110 N Q f) Q μ
    have h : mK μ tp s [] b := h
    have hq := hQ μ mFr_r (by rw [emL_0]; exact h)
    unfold b_X12_test_110
    refine br_t h.2.1.2.1 (br_t ?_ hq)
    rw [show μ.1 10 = nI 0 from h.2.2.2.1.1]
    decide
  | v :: P, f + 1, μ, s, hf, h, hQ => by
    show b_X12_test_110 N (w_X12_test_110 N Q f) Q μ
    have h : mK μ tp s (gR v :: (P.map gR ++ [])) b := h
    have h8 := mK_bd h
    have h8 : s.2.2.2.length + ((P.map gR ++ []).length + 1) ≤ 800 := h8
    unfold b_X12_test_110
    refine br_t h.2.1.2.1 (br_f ?_ (m_drops h (fun ν f1 k1 => ?_)))
    · rw [show μ.1 10 = nI ((P.map gR ++ []).length + 1) from h.2.2.2.1.1]
      exact nI_nle (by omega) (by omega)
    · refine m_110 P f ν (emP v s) (Nat.lt_of_succ_lt_succ hf) k1 (fun υ f2 k2 => hQ υ (mFr_t f1 f2) ?_)
      rw [emL_c] at k2; exact k2
theorem m_test (hN : 1100 < N) (h : mK μ tp s [] b) (hp : mPe μ n na) (hC : mD μ (teP tp (fcP tp n na 9) s) (fun u ν => mK ν tp u [] b → Q ν) Q) : w_X12_test N μ Q := by
  have h8 := h.1.1
  have to : TO N Q tp s μ := by
    refine m_teP hN (m_facts hN h8 hp.1 9) (fcP_g h8 hp.1 9) (Or.inl rfl) (fun v hv => absurd hv (List.not_mem_nil)) h hp (by omega) ⟨fun u ν e f P hP kp g8 g7 => ?_, hC.2⟩
    obtain ⟨c, hc, hk⟩ := kp
    have hle : u.1 ≤ tp.1 := hk.2.1.1
    have hB : bS (P.map gR ++ []) := bS_m hP (fun v hv => absurd hv (List.not_mem_nil))
    have h25 : ¬ 25 ∈ P.map gR ++ [] := fun z => absurd ((sq_m hP).mp z) (List.not_mem_nil)
    intro f2 g2 hf2 hg2
    refine m_t0 hN hk hB (by omega) (fun _ => h25) (fun ν2 f3 k3 => m_76n hN k3 hB g8 g7 (fun _ ν3 f4 k4 => ⟨fun _ => ?_, fun z => absurd rfl z⟩) (fun z => absurd z h25))
    obtain ⟨f5, rfl⟩ : ∃ f5, f2 = f5 + 1 := ⟨f2 - 1, by omega⟩
    show b_X12_test_2 N (w_X12_test_2 N Q f5) Q (0 : Int32) ν3
    unfold b_X12_test_2
    have hbd := mK_bd k4
    have hll : (P.map gR ++ []).length = P.length := by rw [List.append_nil, List.length_map]
    refine br_t rfl (m_110 P N ν3 _ (by omega) k4 (fun ν4 f6 k6 => ?_))
    rw [mKp_e hc] at k6
    exact hC.1 u ν4 e (mFr_t f (mFr_t f3 (mFr_t f4 f6))) k6
  exact to N (by omega)
end mw
