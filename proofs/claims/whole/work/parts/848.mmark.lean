/-! the reference's marks; where it goes on -/
def lvl (St : List Nat) (b m : Nat) : Prop := (m = 99 ∧ St.length = b) ∨ (20 ≤ m ∧ m ≤ 24 ∧ ∃ S', St = m :: S' ∧ b ≤ S'.length)
theorem lvl_b {St : List Nat} {b m : Nat} (h : lvl St b m) : b ≤ St.length := by
  rcases h with ⟨_, h⟩ | ⟨_, _, S', h, h2⟩
  · omega
  · rw [h]; exact Nat.le_succ_of_le h2
def emL (P : List Nat) (s : zP) : zP := (s.1, s.2.1, s.2.2.1, s.2.2.2 ++ P)
theorem emL_0 {s : zP} : emL [] s = s := by unfold emL; rw [List.append_nil]
theorem emL_c {v : Nat} {P : List Nat} {s : zP} : emL P (emP v s) = emL (v :: P) s := by unfold emL emP; rw [List.append_assoc]; rfl
theorem gR_4 {v : Nat} (h : v < 4) : gR v = v + 1 := by unfold gR; rw [if_neg (by omega), if_neg (by omega), if_neg (by omega), if_neg (by omega), if_neg (by omega)]
section mm
variable {N : Nat} {tp : Nat × (Nat → Nat)} {Q : Int32 → zSt → Prop} {μ ν υ : zSt} {s : zP} {St L : List Nat} {b m : Nat}
theorem m_isMark {v : Nat} (hv : v < 2 ^ 31) (hQ : Q (b32 (decide (20 ≤ v ∧ v ≤ 24))) μ) : w_X12_isMark N (nI v) μ Q := by
  unfold w_X12_isMark
  rw [show (20 : Int32) = nI 20 from rfl, show (24 : Int32) = nI 24 from rfl, nI_ltI hv (by decide), nI_ltI (by decide) hv]
  refine ⟨fun z => ?_, fun z => ⟨fun y => ?_, fun y => ?_⟩⟩
  · rw [decide_eq_false (by omega)] at hQ; exact hQ
  · rw [decide_eq_false (by omega)] at hQ; exact hQ
  · rw [decide_eq_true (by omega)] at hQ; exact hQ
theorem m_mark7 (h13 : μ.1 13 = nI b) (hl : lvl St b m) (hb : b ≤ 800) (hQ : Q (whI m) μ) : ∀ (L : List Nat) (f : Nat), L.length < f → (L ++ St).length ≤ 800 → (∀ v, v ∈ L → v < 20) → wtk (μ.2.2.1 11) (L ++ St) → w_X12_mark_7 N Q f (nI (L ++ St).length - 1) μ
  | [], 0, hf, _, _, _ => absurd hf (Nat.not_lt_zero _)
  | v :: L, 0, hf, _, _, _ => absurd hf (Nat.not_lt_zero _)
  | [], f + 1, hf, h8, hL, hw => by
    show b_X12_mark_7 N (w_X12_mark_7 N Q f) Q (nI St.length - 1) μ
    have h8 : St.length ≤ 800 := h8
    have hw : wtk (μ.2.2.1 11) St := hw
    unfold b_X12_mark_7 b_X12_mark_34
    rw [h13]
    rcases hl with ⟨h1, h2⟩ | ⟨h1, h2, S', h3, h4⟩
    · have hq : Q (-1) μ := by rw [h1] at hQ; exact hQ
      have hlt : nI St.length - 1 < nI b := by
        rw [h2]
        cases b with
        | zero => decide
        | succ b => rw [nI_pred]; exact nI_lt (by omega) (by omega)
      exact br_t hlt (br_t hlt hq)
    · rw [h3] at hw h8 ⊢
      have h8 : S'.length + 1 ≤ 800 := h8
      have e : nI (m :: S').length - 1 = nI S'.length := nI_pred _
      have hn : ¬ nI S'.length < nI b := nI_nlt h4 (by omega)
      have hw1 : μ.2.2.1 11 S'.length = nI m := hw.1
      rw [e, nI_clamp (n := S'.length) (by omega), hw1]
      have hq : Q (nI m) μ := by rw [show whI m = nI m from if_neg (by omega)] at hQ; exact hQ
      refine br_f hn ⟨vp_in_nI (by omega) (by decide), m_isMark (by omega) ?_⟩
      rw [decide_eq_true (show 20 ≤ m ∧ m ≤ 24 from ⟨h1, h2⟩), h13, hw1]
      exact br_f (by decide) (br_f hn ⟨vp_in_nI (by omega) (by decide), hq⟩)
  | v :: L, f + 1, hf, h8, hL, hw => by
    show b_X12_mark_7 N (w_X12_mark_7 N Q f) Q (nI ((L ++ St).length + 1) - 1) μ
    have h8 : (L ++ St).length + 1 ≤ 800 := h8
    have hbl := lvl_b hl
    have hbl2 : St.length ≤ (L ++ St).length := by rw [List.length_append]; omega
    have hv := hL v (List.mem_cons_self ..)
    have ih := m_mark7 h13 hl hb hQ L f (Nat.lt_of_succ_lt_succ hf) (by omega) (fun x hx => hL x (List.mem_cons_of_mem _ hx)) hw.2
    have hw1 : μ.2.2.1 11 (L ++ St).length = nI v := hw.1
    unfold b_X12_mark_7
    rw [h13, nI_pred, nI_clamp (n := (L ++ St).length) (by omega), hw1]
    refine br_f (nI_nlt (by omega) (by omega)) ⟨vp_in_nI (by omega) (by decide), m_isMark (by omega) ?_⟩
    rw [decide_eq_false (by omega)]
    refine br_t rfl (nm_e ?_)
    rw [← Int32.sub_eq_add_neg]
    exact ih
theorem m_mark (hN : 1100 < N) (h : mK μ tp s (L ++ St) b) (hl : lvl St b m) (hL : ∀ v, v ∈ L → v < 20) (hQ : Q (whI m) μ) : w_X12_mark N μ Q := by
  have hb := mK_bd h
  have hbl := lvl_b hl
  have hle : (L ++ St).length = L.length + St.length := List.length_append
  obtain ⟨h1, h2, h3, h4, h5, h6, h7⟩ := h
  unfold w_X12_mark
  rw [h4.1]
  exact nm_e (m_mark7 h5 hl (by omega) hQ L N (by omega) (by omega) hL h4.2)
/-- writes all orders that wait above a mark -/
theorem m_toMark0 {Q : zSt → Prop} (hl : lvl St b m) : ∀ (P : List Nat) (f : Nat) (μ : zSt) (s : zP), P.length < f → (∀ v, v ∈ P → v < 4) → mK μ tp s (P.map gR ++ St) b → (∀ ν, mFr μ ν → mK ν tp (emL P s) St b → Q ν) → w_X12_dropsToMark_0 N Q f μ
  | [], 0, _, _, hf, _, _, _ => absurd hf (Nat.not_lt_zero _)
  | v :: P, 0, _, _, hf, _, _, _ => absurd hf (Nat.not_lt_zero _)
  | [], f + 1, μ, s, hf, hP, h, hQ => by
    show b_X12_dropsToMark_0 N (w_X12_dropsToMark_0 N Q f) Q μ
    have h : mK μ tp s St b := h
    have hq := hQ μ mFr_r (by rw [emL_0]; exact h)
    have hb := mK_bd h
    obtain ⟨h1, h2, h3, h4, h5, h6, h7⟩ := h
    unfold b_X12_dropsToMark_0
    rw [h4.1, h5]
    refine ⟨fun _ => hq, fun z => ?_⟩
    rcases hl with ⟨_, h9⟩ | ⟨g1, g2, S', g3, g4⟩
    · exact absurd (by rw [h9]; exact nI_le (Nat.le_refl _) (by omega)) z
    · rw [g3] at h4 hb ⊢
      have hb : s.2.2.2.length + (S'.length + 1) ≤ 800 := hb
      have e : nI (m :: S').length - 1 = nI S'.length := nI_pred _
      rw [e, nI_clamp (n := S'.length) (by omega), h4.2.1]
      refine ⟨vp_in_nI (by omega) (by decide), m_isMark (by omega) ?_⟩
      rw [decide_eq_true (show 20 ≤ m ∧ m ≤ 24 from ⟨g1, g2⟩)]
      exact br_f (by decide) hq
  | v :: P, f + 1, μ, s, hf, hP, h, hQ => by
    show b_X12_dropsToMark_0 N (w_X12_dropsToMark_0 N Q f) Q μ
    have h : mK μ tp s (gR v :: (P.map gR ++ St)) b := h
    have hb := mK_bd h
    have hb : s.2.2.2.length + ((P.map gR ++ St).length + 1) ≤ 800 := hb
    have hv := hP v (List.mem_cons_self ..)
    have hbl := lvl_b hl
    have hll : (P.map gR ++ St).length = P.length + St.length := by rw [List.length_append, List.length_map]
    have h4 := h.2.2.2.1
    unfold b_X12_dropsToMark_0
    rw [show μ.1 10 = nI ((P.map gR ++ St).length + 1) from h4.1, h.2.2.2.2.1, nI_pred, nI_clamp (n := (P.map gR ++ St).length) (by omega), h4.2.1]
    refine br_f (nI_ge (by omega) (by omega)) ⟨vp_in_nI (by omega) (by decide), m_isMark (by rw [gR_4 hv]; omega) ?_⟩
    rw [decide_eq_false (by rw [gR_4 hv]; omega)]
    refine br_t rfl (m_drops h (fun ν f1 k1 => ?_))
    refine m_toMark0 hl P f ν (emP v s) (Nat.lt_of_succ_lt_succ hf) (fun x hx => hP x (List.mem_cons_of_mem _ hx)) k1 (fun υ f2 k2 => hQ υ (mFr_t f1 f2) ?_)
    rw [emL_c] at k2; exact k2
theorem m_toMark {Q : zSt → Prop} {P : List Nat} (hN : 1100 < N) (hl : lvl St b m) (hP : ∀ v, v ∈ P → v < 4) (h : mK μ tp s (P.map gR ++ St) b) (hQ : ∀ ν, mFr μ ν → mK ν tp (emL P s) St b → Q ν) : w_X12_dropsToMark N μ Q := by
  have hb := mK_bd h
  have hll : (P.map gR ++ St).length = P.length + St.length := by rw [List.length_append, List.length_map]
  exact m_toMark0 hl P N μ s (by omega) hP h hQ
/-- at the end of sums: writes all down to the base -/
theorem m_toBase {Q : zSt → Prop} {x1 : Int32} (hb : St.length = b) : ∀ (P : List Nat) (f : Nat) (μ : zSt) (s : zP), P.length < f → mK μ tp s (P.map gR ++ St) b → (∀ ν, mFr μ ν → mK ν tp (emL P s) St b → Q (zI ν 13 x1)) → w_X12_sums_53 N Q f x1 μ
  | [], 0, _, _, hf, _, _ => absurd hf (Nat.not_lt_zero _)
  | v :: P, 0, _, _, hf, _, _ => absurd hf (Nat.not_lt_zero _)
  | [], f + 1, μ, s, hf, h, hQ => by
    show b_X12_sums_53 N (w_X12_sums_53 N Q f) Q x1 μ
    have h : mK μ tp s St b := h
    have hq := hQ μ mFr_r (by rw [emL_0]; exact h)
    have h8 := mK_bd h
    unfold b_X12_sums_53
    refine br_t h.2.1.2.1 (br_t ?_ (nm_e hq))
    rw [h.2.2.2.1.1, h.2.2.2.2.1, hb]
    exact nI_le (Nat.le_refl _) (by omega)
  | v :: P, f + 1, μ, s, hf, h, hQ => by
    show b_X12_sums_53 N (w_X12_sums_53 N Q f) Q x1 μ
    have h : mK μ tp s (gR v :: (P.map gR ++ St)) b := h
    have h8 := mK_bd h
    have h8 : s.2.2.2.length + ((P.map gR ++ St).length + 1) ≤ 800 := h8
    have hll : (P.map gR ++ St).length = P.length + St.length := by rw [List.length_append, List.length_map]
    unfold b_X12_sums_53
    refine br_t h.2.1.2.1 (br_f ?_ (m_drops h (fun ν f1 k1 => ?_)))
    · rw [show μ.1 10 = nI ((P.map gR ++ St).length + 1) from h.2.2.2.1.1, h.2.2.2.2.1]
      exact nI_ge (by omega) (by omega)
    · refine m_toBase hb P f ν (emP v s) (Nat.lt_of_succ_lt_succ hf) k1 (fun υ f2 k2 => hQ υ (mFr_t f1 f2) ?_)
      rw [emL_c] at k2; exact k2
/-- the last one is none of these -/
def nhd (X : List Nat) (St : List Nat) : Prop := ∀ v S', St = v :: S' → v ∉ X ∧ v < 100
theorem m_isOnN {c : Nat} {X : List Nat} (hX : nhd X St) (hc : c ∈ X) (hc2 : c < 100) (h : mK μ tp s St b) (hQ : Q 0 μ) : w_X12_isOn N (nI c) μ Q := by
  cases St with
  | nil => exact m_isOn0 h hQ
  | cons v S' =>
    obtain ⟨h1, h2⟩ := hX v S' rfl
    refine m_isOn (by omega) (by omega) h ?_
    rw [decide_eq_false (fun e => h1 (by rw [e]; exact hc))]
    exact hQ
theorem m_pushW {v : Nat} {Q : zSt → Prop} (h : mK μ tp s St b) (hl : s.2.2.2.length + St.length < s.1) (hQ : ∀ ν, mFr μ ν → mK ν tp s (v :: St) b → Q ν) : (vp_in (μ.1 10) 900) ∧ (∀ τ5 : zSt, τ5 = zA μ 11 (upd (μ.2.2.1 11) ((μ.1 10).toNatClampNeg) (nI v)) → ∀ τ6 : zSt, τ6 = zI τ5 10 ((τ5.1 10) + (1 : Int32)) → Q τ6) := by
  have hb := mK_bd h
  have e : μ.1 10 = nI St.length := h.2.2.2.1.1
  rw [e, nI_clamp (n := St.length) (by omega)]
  exact ⟨vp_in_nI (by omega) (by decide), nm_e (nm_e (hQ _ mF_push (mK_push h hl rfl)))⟩
theorem m_158 {w : Nat} : ∀ (P : List Nat) (f : Nat) (μ : zSt) (s : zP), P.length < f → (∀ v, v ∈ P → v = 2 ∨ v = 3) → nhd [3, 4] St → mK μ tp s (P.map gR ++ St) b → s.2.2.2.length + P.length + St.length < s.1 → (∀ ν, mFr μ ν → mK ν tp (emL P s) (w :: St) b → Q 1 ν) → w_X12_goesOn_158 N Q f (nI w) μ
  | [], 0, _, _, hf, _, _, _, _, _ => absurd hf (Nat.not_lt_zero _)
  | v :: P, 0, _, _, hf, _, _, _, _, _ => absurd hf (Nat.not_lt_zero _)
  | [], f + 1, μ, s, hf, hP, hX, h, hl, hQ => by
    show b_X12_goesOn_158 N (w_X12_goesOn_158 N Q f) Q (nI w) μ
    have h : mK μ tp s St b := h
    have hl : s.2.2.2.length + 0 + St.length < s.1 := hl
    unfold b_X12_goesOn_158
    refine m_isOnN (c := 3) hX (by decide) (by decide) h (br_t rfl (m_isOnN (c := 4) hX (by decide) (by decide) h (br_t rfl ?_)))
    exact m_pushW h (by omega) (fun ν f1 k1 => hQ ν f1 (by rw [emL_0]; exact k1))
  | v :: P, f + 1, μ, s, hf, hP, hX, h, hl, hQ => by
    show b_X12_goesOn_158 N (w_X12_goesOn_158 N Q f) Q (nI w) μ
    have h : mK μ tp s (gR v :: (P.map gR ++ St)) b := h
    have hl : s.2.2.2.length + (P.length + 1) + St.length < s.1 := hl
    have hv := hP v (List.mem_cons_self ..)
    have g := gR_4 (v := v) (by omega)
    have go : b_X12_goesOn_174 N (w_X12_goesOn_158 N Q f) Q (nI w) μ := by
      unfold b_X12_goesOn_174
      refine m_drops h (fun ν f1 k1 => m_158 P f ν (emP v s) (Nat.lt_of_succ_lt_succ hf) (fun x hx => hP x (List.mem_cons_of_mem _ hx)) hX k1 ?_ (fun υ f2 k2 => hQ υ (mFr_t f1 f2) (by rw [emL_c] at k2; exact k2)))
      show (s.2.2.2 ++ [v]).length + P.length + St.length < s.1
      rw [List.length_append]
      show s.2.2.2.length + 1 + P.length + St.length < s.1
      omega
    unfold b_X12_goesOn_158
    refine m_isOn (c := 3) (by decide) (by omega) h ⟨fun z => m_isOn (c := 4) (by decide) (by omega) h ⟨fun y => ?_, fun _ => go⟩, fun _ => go⟩
    have z := of_decide_eq_false (b32_0.mp z)
    have y := of_decide_eq_false (b32_0.mp y)
    omega
theorem m_243 {w : Nat} : ∀ (P : List Nat) (f : Nat) (μ : zSt) (s : zP), P.length < f → (∀ v, v ∈ P → v < 4) → nhd [1, 2, 3, 4] St → mK μ tp s (P.map gR ++ St) b → s.2.2.2.length + P.length + St.length < s.1 → (∀ ν, mFr μ ν → mK ν tp (emL P s) (w :: St) b → Q 1 ν) → w_X12_goesOn_243 N Q f (nI w) μ
  | [], 0, _, _, hf, _, _, _, _, _ => absurd hf (Nat.not_lt_zero _)
  | v :: P, 0, _, _, hf, _, _, _, _, _ => absurd hf (Nat.not_lt_zero _)
  | [], f + 1, μ, s, hf, hP, hX, h, hl, hQ => by
    show b_X12_goesOn_243 N (w_X12_goesOn_243 N Q f) Q (nI w) μ
    have h : mK μ tp s St b := h
    have hl : s.2.2.2.length + 0 + St.length < s.1 := hl
    unfold b_X12_goesOn_243
    refine m_isOnN (c := 3) hX (by decide) (by decide) h (br_t rfl (m_isOnN (c := 4) hX (by decide) (by decide) h (br_t rfl (m_isOnN (c := 1) hX (by decide) (by decide) h (br_t rfl (m_isOnN (c := 2) hX (by decide) (by decide) h (br_t rfl ?_)))))))
    exact m_pushW h (by omega) (fun ν f1 k1 => hQ ν f1 (by rw [emL_0]; exact k1))
  | v :: P, f + 1, μ, s, hf, hP, hX, h, hl, hQ => by
    show b_X12_goesOn_243 N (w_X12_goesOn_243 N Q f) Q (nI w) μ
    have h : mK μ tp s (gR v :: (P.map gR ++ St)) b := h
    have hl : s.2.2.2.length + (P.length + 1) + St.length < s.1 := hl
    have hv := hP v (List.mem_cons_self ..)
    have g := gR_4 (v := v) hv
    have go : b_X12_goesOn_275 N (w_X12_goesOn_243 N Q f) Q (nI w) μ := by
      unfold b_X12_goesOn_275
      refine m_drops h (fun ν f1 k1 => m_243 P f ν (emP v s) (Nat.lt_of_succ_lt_succ hf) (fun x hx => hP x (List.mem_cons_of_mem _ hx)) hX k1 ?_ (fun υ f2 k2 => hQ υ (mFr_t f1 f2) (by rw [emL_c] at k2; exact k2)))
      show (s.2.2.2 ++ [v]).length + P.length + St.length < s.1
      rw [List.length_append]
      show s.2.2.2.length + 1 + P.length + St.length < s.1
      omega
    unfold b_X12_goesOn_243
    refine m_isOn (c := 3) (by decide) (by omega) h ⟨fun z => m_isOn (c := 4) (by decide) (by omega) h ⟨fun y => m_isOn (c := 1) (by decide) (by omega) h ⟨fun x => m_isOn (c := 2) (by decide) (by omega) h ⟨fun w => ?_, fun _ => go⟩, fun _ => go⟩, fun _ => go⟩, fun _ => go⟩
    have z := of_decide_eq_false (b32_0.mp z)
    have y := of_decide_eq_false (b32_0.mp y)
    have x := of_decide_eq_false (b32_0.mp x)
    have w := of_decide_eq_false (b32_0.mp w)
    omega
end mm
