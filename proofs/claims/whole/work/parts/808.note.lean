/-! a net is noted among those that came -/
def insF {α : Type} (f : Nat → α) (p : Nat) (v : α) (k : Nat) : α := if k < p then f k else if k = p then v else f (k - 1)
def psC (row : Nat → Int64) (v : Int64) (c : Nat) : Nat := fa_first (fun k => !decide (row k < v)) c
def notC (cm : Nat × (Nat → Int64) × (Nat → Int32)) (v : Int64) : Nat × (Nat → Int64) × (Nat → Int32) := if psC cm.2.1 v cm.1 < cm.1 ∧ cm.2.1 (psC cm.2.1 v cm.1) = v then (cm.1, cm.2.1, fun k => if k = psC cm.2.1 v cm.1 then cm.2.2 k + 1 else cm.2.2 k) else (cm.1 + 1, insF cm.2.1 (psC cm.2.1 v cm.1) v, insF cm.2.2 (psC cm.2.1 v cm.1) 1)
def cmS (cm : Nat × (Nat → Int64) × (Nat → Int32)) : Prop := ∀ i j, i < j → j < cm.1 → cm.2.1 i < cm.2.1 j
theorem nI_m1 {a : Nat} (h : 1 ≤ a) : nI a + (-1) = nI (a - 1) := by
  rw [← pk_sub (a := a) (b := 1) h]
  exact (Int32.sub_eq_add_neg ..).symm
theorem nI_s1 {a : Nat} (h : 1 ≤ a) : nI a - 1 = nI (a - 1) := pk_sub (b := 1) h
theorem ps_ok (row : Nat → Int64) (v : Int64) : ∀ c, psC row v c ≤ c ∧ (∀ j, j < psC row v c → row j < v) ∧ (psC row v c < c → v ≤ row (psC row v c)) := fun c => by
  have ex : ∃ p, p ≤ c ∧ (∀ j, j < p → row j < v) ∧ (p < c → v ≤ row p) := by
    induction c with
    | zero => exact ⟨0, Nat.le_refl _, fun j hj => absurd hj (Nat.not_lt_zero _), fun z => absurd z (Nat.not_lt_zero _)⟩
    | succ c ih =>
      obtain ⟨p, h1, h2, h3⟩ := ih
      by_cases z : p < c
      · exact ⟨p, by omega, h2, fun _ => h3 z⟩
      · have e : p = c := by omega
        by_cases y : row c < v
        · refine ⟨c + 1, Nat.le_refl _, fun j hj => ?_, fun w => absurd w (by omega)⟩
          by_cases w : j = c
          · rw [w]; exact y
          · exact h2 j (by omega)
        · exact ⟨p, by omega, h2, fun _ => by rw [e]; exact Int64.not_lt.mp y⟩
  obtain ⟨p, h1, h2, h3⟩ := ex
  have e : psC row v c = p := by
    unfold psC
    by_cases z : p < c
    · exact first_is z (by rw [decide_eq_false (Int64.not_lt.mpr (h3 z))]; rfl) (fun j hj => by rw [decide_eq_true (h2 j hj)]; rfl)
    · have e : p = c := by omega
      rw [e]
      exact first_no (fun j hj => by rw [decide_eq_true (h2 j (by omega))]; rfl)
  rw [e]
  exact ⟨h1, h2, h3⟩
theorem not_le1 (cm : Nat × (Nat → Int64) × (Nat → Int32)) (v : Int64) : (notC cm v).1 ≤ cm.1 + 1 := by
  unfold notC
  split
  · exact Nat.le_succ _
  · exact Nat.le_refl _
theorem not_srt {cm : Nat × (Nat → Int64) × (Nat → Int32)} {v : Int64} (h : cmS cm) : cmS (notC cm v) := by
  obtain ⟨h1, h2, h3⟩ := ps_ok cm.2.1 v cm.1
  unfold notC
  split
  · exact h
  · rename_i z
    intro i j hij hj
    have hj : j < cm.1 + 1 := hj
    show insF cm.2.1 (psC cm.2.1 v cm.1) v i < insF cm.2.1 (psC cm.2.1 v cm.1) v j
    have gt : ∀ k, psC cm.2.1 v cm.1 ≤ k → k < cm.1 → v < cm.2.1 k := fun k hk hk2 => by
      have a := h3 (by omega)
      have ne : ¬ cm.2.1 (psC cm.2.1 v cm.1) = v := fun e => z ⟨by omega, e⟩
      rw [← Int64.toInt_inj] at ne
      rw [Int64.le_iff_toInt_le] at a
      rw [Int64.lt_iff_toInt_lt]
      by_cases e : k = psC cm.2.1 v cm.1
      · rw [e]; omega
      · have b := h (psC cm.2.1 v cm.1) k (by omega) hk2
        rw [Int64.lt_iff_toInt_lt] at b
        omega
    unfold insF
    by_cases q1 : i < psC cm.2.1 v cm.1
    · rw [if_pos q1]
      by_cases q2 : j < psC cm.2.1 v cm.1
      · rw [if_pos q2]; exact h i j hij (by omega)
      · rw [if_neg q2]
        by_cases q3 : j = psC cm.2.1 v cm.1
        · rw [if_pos q3]; exact h2 i q1
        · rw [if_neg q3]; exact h i (j - 1) (by omega) (by omega)
    · rw [if_neg q1, if_neg (show ¬ j < psC cm.2.1 v cm.1 by omega), if_neg (show ¬ j = psC cm.2.1 v cm.1 by omega)]
      by_cases q3 : i = psC cm.2.1 v cm.1
      · rw [if_pos q3]; exact gt (j - 1) (by omega) (by omega)
      · rw [if_neg q3]; exact h (i - 1) (j - 1) (by omega) (by omega)
section nt
variable {N : Nat} {σ τ μ ν : zSt} {tp : Nat × (Nat → Nat)} {fa : Int32 × Int32} {l : zL} {net : Nat} {x : Int32} {ba rg : Nat → Int64} {ls : Nat × (Nat → Int64)} {cm : Nat × (Nat → Int64) × (Nat → Int32)} {li : Int64} {oc : Nat → Int32}
theorem x_shift {c p : Nat} {v : Int64} {row : Nat → Int64} {cnt : Nat → Int32} {Q : zSt → Prop} (hN : 1100 < N) (hc : c < 120) (hp : p ≤ c) (h35 : σ.1 35 = nI c) (hr : ∀ k, k < c → σ.2.2.2 12 k = row k ∧ σ.2.2.1 33 k = cnt k) (hQ : ∀ τ, fr [35] [] [33] [12] σ τ → τ.1 35 = nI (c + 1) → (∀ k, k < c + 1 → τ.2.2.2 12 k = insF row p v k ∧ τ.2.2.1 33 k = insF cnt p 1 k) → Q τ) : w_X1_note_2_78 N Q N v (nI p) (nI c) σ := by
  refine loopU (fun f i (s : zSt) => w_X1_note_2_78 N Q f v (nI p) (nI (c - i)) s) (fun i s => fr [35] [] [33] [12] σ s ∧ s.1 35 = nI c ∧ (∀ k, k < c - i → s.2.2.2 12 k = row k ∧ s.2.2.1 33 k = cnt k) ∧ (∀ k, c - i < k → k ≤ c → s.2.2.2 12 k = row (k - 1) ∧ s.2.2.1 33 k = cnt (k - 1))) (c - p) ?_ ?_ N 0 σ (Nat.zero_le _) (by omega) ⟨fr_r, h35, fun k hk => hr k hk, fun k hk hk2 => absurd hk (by omega)⟩
  · intro f s hs
    obtain ⟨s1, s2, s3, s4⟩ := hs
    have e1 : c - (c - p) = p := by omega
    show b_X1_note_2_78 N (w_X1_note_2_78 N Q f) Q v (nI p) (nI (c - (c - p))) s
    rw [e1] at s3 s4 ⊢
    unfold b_X1_note_2_78
    rw [nI_clamp (n := p) (by omega)]
    refine br_t (nI_le (Nat.le_refl _) (by omega)) ⟨vp_in_nI (by omega) (by decide), nm_e ⟨vp_in_nI (by omega) (by decide), nm_e (nm_e (hQ _ (fr_I (fr_A (fr_B s1 (by decide)) (by decide)) (by decide)) (zI_1s.trans ?_) (fun k hk => ?_)))⟩⟩
    · show s.1 35 + 1 = nI (c + 1)
      rw [s2, nI_1]
    · show vp_updL (s.2.2.2 12) p v k = _ ∧ upd (s.2.2.1 33) p 1 k = _
      unfold insF
      by_cases q1 : k < p
      · rw [if_pos q1, if_pos q1, pk_uLn (by omega), pk_un (by omega)]; exact s3 k q1
      · rw [if_neg q1, if_neg q1]
        by_cases q2 : k = p
        · rw [if_pos q2, if_pos q2, q2]; exact ⟨pk_uLs, pk_us⟩
        · rw [if_neg q2, if_neg q2, pk_uLn q2, pk_un q2]; exact s4 k (by omega) (by omega)
  · intro f i s hi hs ih
    obtain ⟨s1, s2, s3, s4⟩ := hs
    show b_X1_note_2_78 N (w_X1_note_2_78 N Q f) Q v (nI p) (nI (c - i)) s
    unfold b_X1_note_2_78
    rw [nI_m1 (a := c - i) (by omega), nI_s1 (a := c - i) (by omega), nI_clamp (n := c - i) (by omega), nI_clamp (n := c - i - 1) (by omega)]
    refine br_f (nI_ge (by omega) (by omega)) ⟨vp_in_nI (by omega) (by decide), vp_in_nI (by omega) (by decide), nm_e ⟨vp_in_nI (by omega) (by decide), vp_in_nI (by omega) (by decide), nm_e (nm_e ?_)⟩⟩
    rw [show c - i - 1 = c - (i + 1) by omega]
    refine ih _ ⟨fr_A (fr_B s1 (by decide)) (by decide), s2, fun k hk => ?_, fun k hk hk2 => ?_⟩
    · show vp_updL (s.2.2.2 12) (c - i) _ k = _ ∧ upd (s.2.2.1 33) (c - i) _ k = _
      rw [pk_uLn (by omega), pk_un (by omega)]
      exact s3 k (by omega)
    · show vp_updL (s.2.2.2 12) (c - i) (s.2.2.2 12 (c - (i + 1))) k = _ ∧ upd (s.2.2.1 33) (c - i) (s.2.2.1 33 (c - (i + 1))) k = _
      by_cases q : k = c - i
      · rw [q, pk_uLs, pk_us, show c - i - 1 = c - (i + 1) by omega]
        exact s3 (c - (i + 1)) (by omega)
      · rw [pk_uLn q, pk_un q]
        exact s4 k (by omega) hk2
theorem m_shift {c p : Nat} {v : Int64} {row : Nat → Int64} {cnt : Nat → Int32} {Q : zSt → Prop} (hN : 1100 < N) (hc : c < 120) (hp : p ≤ c) (h35 : σ.1 28 = nI c) (hr : ∀ k, k < c → σ.2.2.2 7 k = row k ∧ σ.2.2.1 16 k = cnt k) (hQ : ∀ τ, fr [28] [] [16] [7] σ τ → τ.1 28 = nI (c + 1) → (∀ k, k < c + 1 → τ.2.2.2 7 k = insF row p v k ∧ τ.2.2.1 16 k = insF cnt p 1 k) → Q τ) : w_X12_comesNet_63 N Q N v (nI p) (nI c) σ := by
  refine loopU (fun f i (s : zSt) => w_X12_comesNet_63 N Q f v (nI p) (nI (c - i)) s) (fun i s => fr [28] [] [16] [7] σ s ∧ s.1 28 = nI c ∧ (∀ k, k < c - i → s.2.2.2 7 k = row k ∧ s.2.2.1 16 k = cnt k) ∧ (∀ k, c - i < k → k ≤ c → s.2.2.2 7 k = row (k - 1) ∧ s.2.2.1 16 k = cnt (k - 1))) (c - p) ?_ ?_ N 0 σ (Nat.zero_le _) (by omega) ⟨fr_r, h35, fun k hk => hr k hk, fun k hk hk2 => absurd hk (by omega)⟩
  · intro f s hs
    obtain ⟨s1, s2, s3, s4⟩ := hs
    have e1 : c - (c - p) = p := by omega
    show b_X12_comesNet_63 N (w_X12_comesNet_63 N Q f) Q v (nI p) (nI (c - (c - p))) s
    rw [e1] at s3 s4 ⊢
    unfold b_X12_comesNet_63
    rw [nI_clamp (n := p) (by omega)]
    refine br_t (nI_le (Nat.le_refl _) (by omega)) ⟨vp_in_nI (by omega) (by decide), nm_e ⟨vp_in_nI (by omega) (by decide), nm_e (nm_e (hQ _ (fr_I (fr_A (fr_B s1 (by decide)) (by decide)) (by decide)) (zI_1s.trans ?_) (fun k hk => ?_)))⟩⟩
    · show s.1 28 + 1 = nI (c + 1)
      rw [s2, nI_1]
    · show vp_updL (s.2.2.2 7) p v k = _ ∧ upd (s.2.2.1 16) p 1 k = _
      unfold insF
      by_cases q1 : k < p
      · rw [if_pos q1, if_pos q1, pk_uLn (by omega), pk_un (by omega)]; exact s3 k q1
      · rw [if_neg q1, if_neg q1]
        by_cases q2 : k = p
        · rw [if_pos q2, if_pos q2, q2]; exact ⟨pk_uLs, pk_us⟩
        · rw [if_neg q2, if_neg q2, pk_uLn q2, pk_un q2]; exact s4 k (by omega) (by omega)
  · intro f i s hi hs ih
    obtain ⟨s1, s2, s3, s4⟩ := hs
    show b_X12_comesNet_63 N (w_X12_comesNet_63 N Q f) Q v (nI p) (nI (c - i)) s
    unfold b_X12_comesNet_63
    rw [nI_m1 (a := c - i) (by omega), nI_s1 (a := c - i) (by omega), nI_clamp (n := c - i) (by omega), nI_clamp (n := c - i - 1) (by omega)]
    refine br_f (nI_ge (by omega) (by omega)) ⟨vp_in_nI (by omega) (by decide), vp_in_nI (by omega) (by decide), nm_e ⟨vp_in_nI (by omega) (by decide), vp_in_nI (by omega) (by decide), nm_e (nm_e ?_)⟩⟩
    rw [show c - i - 1 = c - (i + 1) by omega]
    refine ih _ ⟨fr_A (fr_B s1 (by decide)) (by decide), s2, fun k hk => ?_, fun k hk hk2 => ?_⟩
    · show vp_updL (s.2.2.2 7) (c - i) _ k = _ ∧ upd (s.2.2.1 16) (c - i) _ k = _
      rw [pk_uLn (by omega), pk_un (by omega)]
      exact s3 k (by omega)
    · show vp_updL (s.2.2.2 7) (c - i) (s.2.2.2 7 (c - (i + 1))) k = _ ∧ upd (s.2.2.1 16) (c - i) (s.2.2.1 16 (c - (i + 1))) k = _
      by_cases q : k = c - i
      · rw [q, pk_uLs, pk_us, show c - i - 1 = c - (i + 1) by omega]
        exact s3 (c - (i + 1)) (by omega)
      · rw [pk_uLn q, pk_un q]
        exact s4 k (by omega) hk2
theorem X_cm {cm' : Nat × (Nat → Int64) × (Nat → Int32)} (h : fr [35] [] [33] [12] σ τ) (hX : XR σ tp fa l net x ba rg ls cm li oc) (hc : cm'.1 ≤ 120 ∧ τ.1 35 = nI cm'.1 ∧ ∀ k, k < cm'.1 → τ.2.2.2 12 k = cm'.2.1 k ∧ τ.2.2.1 33 k = cm'.2.2 k) : XR τ tp fa l net x ba rg ls (cm') li oc := by
  obtain ⟨a1, a2, a3, a4, a5, a6, a7, a8, a9, a10, a11, a12⟩ := hX
  refine ⟨?_, ?_, xG_fr h (notin rfl) (notin rfl) (notin rfl) (notin rfl) a3, ?_, ?_, ?_, ?_, ?_, ?_, hc, ?_, ?_⟩
  · unfold xTp; rw [h.1 0 (by decide), h.2.2.1 2 (by decide)]; exact a1
  · rw [h.1 8 (by decide), h.1 9 (by decide), h.2.2.1 14 (by decide)]; exact a2
  · exact fun s hs => by rw [h.2.2.2 7 (by decide), h.2.2.2 8 (by decide)]; exact a4 s hs
  · rw [h.1 25 (by decide), h.1 26 (by decide)]; exact a5
  · rw [h.2.1 0 (by decide)]; exact a6
  · rw [h.2.2.2 0 (by decide)]; exact a7
  · rw [h.2.2.2 1 (by decide)]; exact a8
  · rw [h.1 34 (by decide), h.2.2.2 11 (by decide)]; exact a9
  · rw [h.2.1 1 (by decide)]; exact a11
  · rw [h.2.2.1 1 (by decide)]; exact a12
theorem M_cm {cm' : Nat × (Nat → Int64) × (Nat → Int32)} (h : fr [28] [] [16] [7] μ ν) (hX : MR μ tp fa l net x ba rg ls cm li oc) (hc : cm'.1 ≤ 120 ∧ ν.1 28 = nI cm'.1 ∧ ∀ k, k < cm'.1 → ν.2.2.2 7 k = cm'.2.1 k ∧ ν.2.2.1 16 k = cm'.2.2 k) : MR ν tp fa l net x ba rg ls (cm') li oc := by
  obtain ⟨a1, a2, a3, a4, a5, a6, a7, a8, a9, a10, a11, a12⟩ := hX
  refine ⟨?_, ?_, mG_fr h (notin rfl) (by decide) (notin rfl) (notin rfl) a3, ?_, ?_, ?_, ?_, ?_, ?_, hc, ?_, ?_⟩
  · unfold mTp; rw [h.1 0 (by decide), h.2.2.1 0 (by decide)]; exact a1
  · rw [h.1 6 (by decide), h.1 7 (by decide)]; exact a2
  · unfold mNm; rw [h.2.2.2 0 (by decide)]; exact a4
  · rw [h.1 14 (by decide), h.1 16 (by decide)]; exact a5
  · rw [h.2.1 0 (by decide)]; exact a6
  · unfold mBa; rw [h.1 22 (by decide), h.1 23 (by decide), h.2.1 3 (by decide)]; exact a7
  · unfold mRg; rw [h.1 25 (by decide), h.1 26 (by decide), h.2.1 5 (by decide)]; exact a8
  · rw [h.1 27 (by decide), h.2.2.2 6 (by decide)]; exact a9
  · unfold mLi; rw [h.1 29 (by decide), h.2.1 6 (by decide)]; exact a11
  · unfold mOc; rw [h.1 30 (by decide), h.2.2.1 17 (by decide)]; exact a12
theorem x_note {v : Int64} {Q : zSt → Prop} (hN : 1100 < N) (h : XR σ tp fa l net x ba rg ls cm li oc) (hs : cmS cm) (hc : cm.1 < 120) (hQ : ∀ τ, fr [35] [] [33] [12] σ τ → XR τ tp fa l net x ba rg ls (notC cm v) li oc → Q τ) : w_X1_note_2 N v σ Q := by
  obtain ⟨g0, g1, g2⟩ := h.2.2.2.2.2.2.2.2.2.1
  obtain ⟨p1, p2, p3⟩ := ps_ok cm.2.1 v cm.1
  unfold w_X1_note_2
  rw [g1]
  refine nm_e ?_
  by_cases hz : psC cm.2.1 v cm.1 < cm.1 ∧ cm.2.1 (psC cm.2.1 v cm.1) = v
  · -- it stands there already
    have eN : notC cm v = (cm.1, cm.2.1, fun k => if k = psC cm.2.1 v cm.1 then cm.2.2 k + 1 else cm.2.2 k) := if_pos hz
    rw [eN] at hQ
    refine loopU (S := Unit) (fun f i _ => w_X1_note_2_5 N Q f v (nI (cm.1 - i)) σ) (fun _ _ => True) (cm.1 - (psC cm.2.1 v cm.1 + 1)) ?_ ?_ N 0 () (Nat.zero_le _) (by omega) trivial
    · intro f _ _
      show b_X1_note_2_5 N (w_X1_note_2_5 N Q f) Q v (nI (cm.1 - (cm.1 - (psC cm.2.1 v cm.1 + 1)))) σ
      rw [show cm.1 - (cm.1 - (psC cm.2.1 v cm.1 + 1)) = psC cm.2.1 v cm.1 + 1 by omega]
      have n0 : ¬ nI (psC cm.2.1 v cm.1 + 1) ≤ 0 := nI_ge (a := 0) (by omega) (by omega)
      have n28 : b_X1_note_2_28 N Q v (nI (psC cm.2.1 v cm.1 + 1)) σ := by
        unfold b_X1_note_2_28
        rw [nI_s1 (by omega), Nat.add_sub_cancel, nI_clamp (n := psC cm.2.1 v cm.1) (by omega), (g2 _ hz.1).1, (g2 _ hz.1).2]
        refine br_f n0 ⟨vp_in_nI (by omega) (by decide), br_t ((lg_cmp_eq _ _).mpr hz.2) ⟨vp_in_nI (by omega) (by decide), vp_in_nI (by omega) (by decide), nm_e ?_⟩⟩
        have hf : fr [35] [] [33] [12] σ (zA σ 33 (upd (σ.2.2.1 33) (psC cm.2.1 v cm.1) (cm.2.2 (psC cm.2.1 v cm.1) + 1))) := fr_A fr_r (by decide)
        refine hQ _ hf (X_cm hf h ⟨g0, g1, fun k hk => ⟨(g2 k hk).1, ?_⟩⟩)
        show upd (σ.2.2.1 33) (psC cm.2.1 v cm.1) (cm.2.2 (psC cm.2.1 v cm.1) + 1) k = if k = psC cm.2.1 v cm.1 then cm.2.2 k + 1 else cm.2.2 k
        by_cases q : k = psC cm.2.1 v cm.1
        · rw [if_pos q, q]; exact pk_us
        · rw [if_neg q, pk_un q]; exact (g2 k hk).2
      unfold b_X1_note_2_5
      rw [nI_s1 (by omega), Nat.add_sub_cancel, nI_clamp (n := psC cm.2.1 v cm.1) (by omega), (g2 _ hz.1).1, lg_cmp_le]
      exact br_f n0 ⟨vp_in_nI (by omega) (by decide), br_t (by rw [hz.2]; exact Int64.le_refl _) n28⟩
    · intro f i _ hi _ ih
      show b_X1_note_2_5 N (w_X1_note_2_5 N Q f) Q v (nI (cm.1 - i)) σ
      have hgt : v < cm.2.1 (cm.1 - i - 1) := by
        have := hs (psC cm.2.1 v cm.1) (cm.1 - i - 1) (by omega) (by omega)
        rw [hz.2] at this
        exact this
      unfold b_X1_note_2_5
      rw [nI_m1 (a := cm.1 - i) (by omega), nI_s1 (a := cm.1 - i) (by omega), nI_clamp (n := cm.1 - i - 1) (by omega), (g2 _ (by omega)).1, lg_cmp_le]
      exact br_f (nI_ge (a := 0) (by omega) (by omega)) ⟨vp_in_nI (by omega) (by decide), br_f (Int64.not_le.mpr hgt) (nm_e (ih () trivial))⟩
  · have eN : notC cm v = (cm.1 + 1, insF cm.2.1 (psC cm.2.1 v cm.1) v, insF cm.2.2 (psC cm.2.1 v cm.1) 1) := if_neg hz
    rw [eN] at hQ
    have n60 : b_X1_note_2_60 N Q v (nI (psC cm.2.1 v cm.1)) σ := by
      unfold b_X1_note_2_60
      rw [g1]
      exact br_f (nI_ge (b := 120) (by omega) (by omega)) (nm_e (x_shift hN hc p1 g1 g2 (fun τ f1 f2 f3 => hQ τ f1 (X_cm f1 h ⟨by show cm.1 + 1 ≤ 120; omega, f2, f3⟩))))
    have n28 : b_X1_note_2_28 N Q v (nI (psC cm.2.1 v cm.1)) σ := by
      unfold b_X1_note_2_28
      refine ⟨fun _ => n60, fun q => ?_⟩
      have q : 1 ≤ psC cm.2.1 v cm.1 := by
        by_cases w : psC cm.2.1 v cm.1 = 0
        · rw [w] at q; exact absurd (show nI 0 ≤ 0 by decide) q
        · omega
      have lt := p2 (psC cm.2.1 v cm.1 - 1) (by omega)
      rw [nI_s1 q, nI_clamp (n := psC cm.2.1 v cm.1 - 1) (by omega), (g2 _ (by omega)).1, lg_cmp_eq]
      exact ⟨vp_in_nI (by omega) (by decide), br_f (fun e => by rw [e] at lt; exact absurd lt (Int64.not_lt.mpr (Int64.le_refl _))) n60⟩
    refine loopU (S := Unit) (fun f i _ => w_X1_note_2_5 N Q f v (nI (cm.1 - i)) σ) (fun _ _ => True) (cm.1 - psC cm.2.1 v cm.1) ?_ ?_ N 0 () (Nat.zero_le _) (by omega) trivial
    · intro f _ _
      show b_X1_note_2_5 N (w_X1_note_2_5 N Q f) Q v (nI (cm.1 - (cm.1 - psC cm.2.1 v cm.1))) σ
      rw [show cm.1 - (cm.1 - psC cm.2.1 v cm.1) = psC cm.2.1 v cm.1 by omega]
      unfold b_X1_note_2_5
      refine ⟨fun _ => n28, fun q => ?_⟩
      have q : 1 ≤ psC cm.2.1 v cm.1 := by
        by_cases w : psC cm.2.1 v cm.1 = 0
        · rw [w] at q; exact absurd (show nI 0 ≤ 0 by decide) q
        · omega
      have lt := p2 (psC cm.2.1 v cm.1 - 1) (by omega)
      rw [nI_s1 q, nI_clamp (n := psC cm.2.1 v cm.1 - 1) (by omega), (g2 _ (by omega)).1, lg_cmp_le]
      exact ⟨vp_in_nI (by omega) (by decide), br_t (Int64.not_lt.mp (fun w => by rw [Int64.lt_iff_toInt_lt] at w lt; omega)) n28⟩
    · intro f i _ hi _ ih
      show b_X1_note_2_5 N (w_X1_note_2_5 N Q f) Q v (nI (cm.1 - i)) σ
      have hgt : v < cm.2.1 (cm.1 - i - 1) := by
        have a := p3 (by omega)
        have ne : ¬ cm.2.1 (psC cm.2.1 v cm.1) = v := fun e => hz ⟨by omega, e⟩
        rw [← Int64.toInt_inj] at ne
        rw [Int64.le_iff_toInt_le] at a
        rw [Int64.lt_iff_toInt_lt]
        by_cases e : cm.1 - i - 1 = psC cm.2.1 v cm.1
        · rw [e]; omega
        · have b := hs (psC cm.2.1 v cm.1) (cm.1 - i - 1) (by omega) (by omega)
          rw [Int64.lt_iff_toInt_lt] at b
          omega
      unfold b_X1_note_2_5
      rw [nI_m1 (a := cm.1 - i) (by omega), nI_s1 (a := cm.1 - i) (by omega), nI_clamp (n := cm.1 - i - 1) (by omega), (g2 _ (by omega)).1, lg_cmp_le]
      exact br_f (nI_ge (a := 0) (by omega) (by omega)) ⟨vp_in_nI (by omega) (by decide), br_f (Int64.not_le.mpr hgt) (nm_e (ih () trivial))⟩
theorem m_note {v : Int64} {Q : zSt → Prop} (hN : 1100 < N) (h : MR μ tp fa l net x ba rg ls cm li oc) (hc : cm.1 < 120) (hQ : ∀ τ, fr [28] [] [16] [7] μ τ → MR τ tp fa l net x ba rg ls (notC cm v) li oc → Q τ) : w_X12_comesNet N v μ Q := by
  obtain ⟨g0, g1, g2⟩ := h.2.2.2.2.2.2.2.2.2.1
  obtain ⟨p1, p2, p3⟩ := ps_ok cm.2.1 v cm.1
  have n27 : b_X12_comesNet_27 N Q v (nI (psC cm.2.1 v cm.1)) μ := by
    unfold b_X12_comesNet_27
    rw [g1]
    have ins : ¬ (psC cm.2.1 v cm.1 < cm.1 ∧ cm.2.1 (psC cm.2.1 v cm.1) = v) → w_X12_comesNet_63 N Q N v (nI (psC cm.2.1 v cm.1)) (nI cm.1) μ := fun hz => by
      have eN : notC cm v = (cm.1 + 1, insF cm.2.1 (psC cm.2.1 v cm.1) v, insF cm.2.2 (psC cm.2.1 v cm.1) 1) := if_neg hz
      rw [eN] at hQ
      exact m_shift hN hc p1 g1 g2 (fun τ f1 f2 f3 => hQ τ f1 (M_cm f1 h ⟨by show cm.1 + 1 ≤ 120; omega, f2, f3⟩))
    refine ⟨fun q => nm_e (ins (fun z => nI_ge z.1 (by omega) q)), fun q => ?_⟩
    have q : psC cm.2.1 v cm.1 < cm.1 := by
      by_cases w : psC cm.2.1 v cm.1 < cm.1
      · exact w
      · exact absurd (nI_le (by omega) (by omega)) q
    rw [nI_clamp (n := psC cm.2.1 v cm.1) (by omega), (g2 _ q).1, (g2 _ q).2, lg_cmp_eq]
    refine ⟨vp_in_nI (by omega) (by decide), ⟨fun e => ⟨vp_in_nI (by omega) (by decide), vp_in_nI (by omega) (by decide), nm_e ?_⟩, fun e => nm_e (ins (fun z => e z.2))⟩⟩
    have eN : notC cm v = (cm.1, cm.2.1, fun k => if k = psC cm.2.1 v cm.1 then cm.2.2 k + 1 else cm.2.2 k) := if_pos ⟨q, e⟩
    rw [eN] at hQ
    have hf : fr [28] [] [16] [7] μ (zA μ 16 (upd (μ.2.2.1 16) (psC cm.2.1 v cm.1) (cm.2.2 (psC cm.2.1 v cm.1) + 1))) := fr_A fr_r (by decide)
    refine hQ _ hf (M_cm hf h ⟨g0, g1, fun k hk => ⟨(g2 k hk).1, ?_⟩⟩)
    show upd (μ.2.2.1 16) (psC cm.2.1 v cm.1) (cm.2.2 (psC cm.2.1 v cm.1) + 1) k = if k = psC cm.2.1 v cm.1 then cm.2.2 k + 1 else cm.2.2 k
    by_cases q : k = psC cm.2.1 v cm.1
    · rw [if_pos q, q]; exact pk_us
    · rw [if_neg q, pk_un q]; exact (g2 k hk).2
  refine loopU (S := Unit) (fun f i _ => w_X12_comesNet_2 N Q f v (nI i) μ) (fun _ _ => True) (psC cm.2.1 v cm.1) ?_ ?_ N 0 () (Nat.zero_le _) (by omega) trivial
  · intro f _ _
    show b_X12_comesNet_2 N (w_X12_comesNet_2 N Q f) Q v (nI (psC cm.2.1 v cm.1)) μ
    unfold b_X12_comesNet_2
    rw [g1]
    refine ⟨fun _ => n27, fun q => ?_⟩
    have q : psC cm.2.1 v cm.1 < cm.1 := by
      by_cases w : psC cm.2.1 v cm.1 < cm.1
      · exact w
      · exact absurd (nI_le (by omega) (by omega)) q
    rw [nI_clamp (n := psC cm.2.1 v cm.1) (by omega), (g2 _ q).1, lg_cmp_ge]
    exact ⟨vp_in_nI (by omega) (by decide), br_t (p3 q) n27⟩
  · intro f i _ hi _ ih
    show b_X12_comesNet_2 N (w_X12_comesNet_2 N Q f) Q v (nI i) μ
    unfold b_X12_comesNet_2
    rw [g1, nI_clamp (n := i) (by omega), (g2 i (by omega)).1, lg_cmp_ge, nI_1]
    exact br_f (nI_ge (by omega) (by omega)) ⟨vp_in_nI (by omega) (by decide), br_f (Int64.not_le.mpr (p2 i hi)) (nm_e (ih () trivial))⟩
end nt
