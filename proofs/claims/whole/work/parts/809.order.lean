/-! orders: the next one -/
def swO (o : List Nat) (i j : Nat) : List Nat := (o.set i (oG o j)).set j (oG o i)
def pI (o : List Nat) : Nat → Nat
  | 0 => 0
  | i + 1 => if oG o i ≤ oG o (i + 1) then i + 1 else pI o i
def pJ (o : List Nat) (i : Nat) : Nat → Nat
  | 0 => 0
  | j + 1 => if j + 1 ≤ i ∨ oG o i ≤ oG o (j + 1) then j + 1 else pJ o i j
def rvO : Nat → List Nat → Nat → Nat → List Nat
  | 0, o, _, _ => o
  | g + 1, o, a, b => if a < b then rvO g (swO o a b) (a + 1) (b - 1) else o
def nxO (n : Nat) (o : List Nat) : Option (List Nat) := match pI o (n - 1) with
  | 0 => none
  | i + 1 => some (rvO 5 (swO o i (pJ o i (n - 1))) (i + 1) (n - 1))
def okB (n : Nat) (o : List Nat) : Bool := decide (o.length = n) && ((List.range n).all (fun k => decide (oG o k < n)) && (List.range n).all (fun k => (List.range k).all (fun j => decide (oG o j ≠ oG o k))))
def chk (n : Nat) : Nat → List Nat → Bool
  | 0, _ => false
  | f + 1, o => okB n o && (match nxO n o with
    | none => true
    | some o' => chk n f o')
theorem chk_all : ∀ n, n < 6 → 2 ≤ n → chk n 120 (List.range n) = true := by decide +kernel
theorem okB_ok {n : Nat} {o : List Nat} (h : okB n o = true) : okO n o := by
  unfold okB at h
  rw [Bool.and_eq_true, Bool.and_eq_true, decide_eq_true_eq, List.all_eq_true, List.all_eq_true] at h
  refine ⟨h.1, fun k hk => of_decide_eq_true (h.2.1 k (List.mem_range.mpr hk)), fun j k hj hk => ?_⟩
  have := h.2.2 k (List.mem_range.mpr hk)
  rw [List.all_eq_true] at this
  exact of_decide_eq_true (this j (List.mem_range.mpr hj))
theorem swO_len (o : List Nat) (i j : Nat) : (swO o i j).length = o.length := by
  unfold swO; rw [List.length_set, List.length_set]
theorem oG_set (o : List Nat) (i v k : Nat) (hi : i < o.length) : oG (o.set i v) k = if k = i then v else oG o k := by
  unfold oG
  rw [List.getD_eq_getElem?_getD, List.getD_eq_getElem?_getD, List.getElem?_set]
  by_cases q : i = k
  · rw [if_pos q, if_pos q.symm, if_pos hi]; rfl
  · rw [if_neg q, if_neg (fun z => q z.symm)]
theorem oG_sw (o : List Nat) (i j k : Nat) (hi : i < o.length) (hj : j < o.length) : oG (swO o i j) k = if k = j then oG o i else if k = i then oG o j else oG o k := by
  unfold swO
  rw [oG_set _ _ _ _ (by rw [List.length_set]; exact hj), oG_set _ _ _ _ hi]
theorem oG_range {n k : Nat} (h : k < n) : oG (List.range n) k = k := by
  unfold oG
  rw [List.getD_eq_getElem?_getD, List.getElem?_range h]; rfl
theorem pI_le (o : List Nat) : ∀ t, pI o t ≤ t
  | 0 => Nat.le_refl _
  | t + 1 => by
    have := pI_le o t
    rw [pI]; split <;> omega
theorem pJ_le (o : List Nat) (i : Nat) : ∀ t, pJ o i t ≤ t
  | 0 => Nat.le_refl _
  | t + 1 => by
    have := pJ_le o i t
    rw [pJ]; split <;> omega
theorem frI_s {t : Nat} : frI (t + 1) = nI t := if_neg (Nat.succ_ne_zero t)
theorem frI_d : ∀ t, t < 10 → nI t + (-1) = frI t := by decide +kernel
theorem n1_lt0 : (-1 : Int32) < 0 := by decide
section od
variable {N n : Nat} {σ τ μ ν : zSt} {o : List Nat}
theorem x_swap {i j : Nat} {Q : zSt → Prop} (h5 : n ≤ 5) (hl : o.length = n) (hO : xOr σ n o) (hi : i < n) (hj : j < n) (hQ : ∀ τ, fr [] [] [31] [] σ τ → xOr τ n (swO o i j) → Q τ) : w_X2_swap N (nI i) (nI j) σ Q := by
  unfold w_X2_swap
  rw [nI_clamp (n := i) (by omega), nI_clamp (n := j) (by omega), hO.2 i hi, hO.2 j hj]
  refine ⟨vp_in_nI (by omega) (by decide), nm_e ⟨vp_in_nI (by omega) (by decide), vp_in_nI (by omega) (by decide), nm_e ⟨vp_in_nI (by omega) (by decide), nm_e (hQ _ (fr_A (fr_A fr_r (by decide)) (by decide)) ⟨hO.1, fun k hk => ?_⟩)⟩⟩⟩
  show upd (upd (σ.2.2.1 31) i (nI (oG o j))) j (nI (oG o i)) k = _
  rw [oG_sw o i j k (by omega) (by omega)]
  by_cases q : k = j
  · rw [if_pos q, q]; exact pk_us
  · rw [if_neg q, pk_un q]
    by_cases q2 : k = i
    · rw [if_pos q2, q2]; exact pk_us
    · rw [if_neg q2, pk_un q2]; exact hO.2 k hk
theorem x_rev {Q : Int32 → zSt → Prop} (h5 : n ≤ 5) : ∀ (g f a b : Nat) (o : List Nat) (σ : zSt), a < 100 → b ≤ a + g → g < f → b < n → o.length = n → xOr σ n o → (∀ τ, fr [] [] [31] [] σ τ → xOr τ n (rvO g o a b) → Q 1 τ) → w_X2_advance_91 N Q f (nI a) (nI b) σ
  | g, 0, _, _, _, _, _, _, hf, _, _, _, _ => absurd hf (Nat.not_lt_zero _)
  | 0, f + 1, a, b, o, σ, ha, hba, _, hb, _, hO, hQ => by
    show b_X2_advance_91 N (w_X2_advance_91 N Q f) Q (nI a) (nI b) σ
    unfold b_X2_advance_91
    exact br_t (nI_le (by omega) (by omega)) (hQ σ fr_r hO)
  | g + 1, f + 1, a, b, o, σ, ha, hba, hf, hb, hl, hO, hQ => by
    show b_X2_advance_91 N (w_X2_advance_91 N Q f) Q (nI a) (nI b) σ
    unfold b_X2_advance_91
    rw [rvO] at hQ
    by_cases q : a < b
    · rw [if_pos q] at hQ
      refine br_f (nI_ge q (by omega)) (x_swap h5 hl hO (by omega) hb (fun τ f1 o1 => ?_))
      rw [nI_1 a, nI_m1 (a := b) (by omega)]
      exact nm_e (nm_e (x_rev h5 g f (a + 1) (b - 1) (swO o a b) τ (by omega) (by omega) (by omega) (by omega) ((swO_len o a b).trans hl) o1 (fun τ2 f2 o2 => hQ τ2 (fr_t f1 f2) o2)))
    · rw [if_neg q] at hQ
      exact br_t (nI_le (by omega) (by omega)) (hQ σ fr_r hO)
theorem x_adv73 {i j : Nat} {Q : Int32 → zSt → Prop} (hN : 1100 < N) (h5 : n ≤ 5) (hl : o.length = n) (hO : xOr σ n o) (hi : i < n) (hj : j < n) (hQ : ∀ τ, fr [] [] [31] [] σ τ → xOr τ n (rvO 5 (swO o i j) (i + 1) (n - 1)) → Q 1 τ) : b_X2_advance_73 N Q (nI i) (nI j) σ := by
  unfold b_X2_advance_73
  refine x_swap h5 hl hO hi hj (fun τ f1 o1 => ?_)
  rw [o1.1, nI_1 i, nI_s1 (a := n) (by omega)]
  exact nm_e (nm_e (x_rev h5 5 N (i + 1) (n - 1) (swO o i j) τ (by omega) (by omega) (by omega) (by omega) ((swO_len o i j).trans hl) o1 (fun τ2 f2 o2 => hQ τ2 (fr_t f1 f2) o2)))
theorem x_adv47 {i : Nat} {Q : Int32 → zSt → Prop} (h5 : n ≤ 5) (ho : okO n o) (hO : xOr σ n o) (hi : i < n) : ∀ j f, j < f → j < n → b_X2_advance_73 N Q (nI i) (nI (pJ o i j)) σ → w_X2_advance_47 N Q f (nI i) (nI j) σ
  | _, 0, hf, _, _ => absurd hf (Nat.not_lt_zero _)
  | 0, f + 1, _, _, h => by
    show b_X2_advance_47 N (w_X2_advance_47 N Q f) Q (nI i) (nI 0) σ
    unfold b_X2_advance_47
    exact br_t (nI_le (by omega) (by omega)) h
  | j + 1, f + 1, hf, hj, h => by
    show b_X2_advance_47 N (w_X2_advance_47 N Q f) Q (nI i) (nI (j + 1)) σ
    have b1 := ho.2.1 i hi
    have b2 := ho.2.1 (j + 1) hj
    rw [pJ] at h
    unfold b_X2_advance_47
    rw [nI_clamp (n := i) (by omega), nI_clamp (n := j + 1) (by omega), hO.2 i hi, hO.2 (j + 1) hj, nI_m1 (a := j + 1) (by omega), Nat.add_sub_cancel]
    refine ⟨fun q => ?_, fun q => ⟨vp_in_nI (by omega) (by decide), vp_in_nI (by omega) (by decide), fun q2 => ?_, fun q2 => nm_e ?_⟩⟩
    · rw [if_pos (Or.inl ((nI_leI (by omega) (by omega)).mp q))] at h; exact h
    · rw [if_pos (Or.inr ((nI_leI (by omega) (by omega)).mp q2))] at h; exact h
    · rw [if_neg (fun z => z.elim (fun w => q (nI_le w (by omega))) (fun w => q2 (nI_le w (by omega))))] at h
      exact x_adv47 h5 ho hO hi j f (by omega) (by omega) h
theorem x_adv7 {Q : Int32 → zSt → Prop} (h5 : n ≤ 5) (ho : okO n o) (hO : xOr σ n o) : ∀ t f, t < f → t < n → b_X2_advance_34 N Q (frI (pI o t)) σ → w_X2_advance_7 N Q f (frI t) σ
  | _, 0, hf, _, _ => absurd hf (Nat.not_lt_zero _)
  | 0, f + 1, _, _, h => by
    show b_X2_advance_7 N (w_X2_advance_7 N Q f) Q (frI 0) σ
    unfold b_X2_advance_7
    exact br_t n1_lt0 h
  | t + 1, f + 1, hf, ht, h => by
    show b_X2_advance_7 N (w_X2_advance_7 N Q f) Q (frI (t + 1)) σ
    have b1 := ho.2.1 t (by omega)
    have b2 := ho.2.1 (t + 1) ht
    rw [pI] at h
    unfold b_X2_advance_7
    rw [frI_s, nI_1 t, nI_clamp (n := t) (by omega), nI_clamp (n := t + 1) (by omega), hO.2 t (by omega), hO.2 (t + 1) ht, frI_d t (by omega)]
    refine br_f (nlt_le.mpr (nI_le (a := 0) (by omega) (by omega))) ⟨vp_in_nI (by omega) (by decide), vp_in_nI (by omega) (by decide), fun q => ?_, fun q => nm_e ?_⟩
    · rw [if_pos ((nI_leI (by omega) (by omega)).mp q), frI_s] at h; exact h
    · rw [if_neg (fun w => q (nI_le w (by omega)))] at h
      exact x_adv7 h5 ho hO t f (by omega) (by omega) h
theorem x_advance {Q : Int32 → zSt → Prop} (hN : 1100 < N) (h2 : 2 ≤ n) (h5 : n ≤ 5) (ho : okO n o) (hO : xOr σ n o) (h0 : nxO n o = none → Q 0 σ) (h1 : ∀ o', nxO n o = some o' → ∀ τ, fr [] [] [31] [] σ τ → xOr τ n o' → Q 1 τ) : w_X2_advance N σ Q := by
  unfold w_X2_advance
  rw [hO.1, show (2 : Int32) = nI 2 from rfl, pk_sub (by omega)]
  refine nm_e ?_
  have e : nI (n - 2) = frI (n - 1) := by rw [show n - 1 = (n - 2) + 1 by omega, frI_s]
  rw [e]
  refine x_adv7 h5 ho hO (n - 1) N (by omega) (by omega) ?_
  have hle := pI_le o (n - 1)
  unfold nxO at h0 h1
  unfold b_X2_advance_34
  rw [hO.1, nI_s1 (a := n) (by omega)]
  cases hp : pI o (n - 1) with
  | zero =>
    rw [hp] at h0
    exact br_f (show ¬ (0 : Int32) ≤ -1 by decide) (h0 rfl)
  | succ i =>
    rw [hp] at h1
    rw [frI_s]
    have hj := pJ_le o i (n - 1)
    refine br_t (nI_le (a := 0) (by omega) (by omega)) (nm_e (x_adv47 h5 ho hO (by omega) (n - 1) N (by omega) (by omega) ?_))
    exact x_adv73 hN h5 ho.1 hO (by omega) (by omega) (fun τ f1 o1 => h1 _ rfl τ f1 o1)
theorem m_swp {i j : Nat} (h5 : n ≤ 5) (hl : o.length = n) (hO : mOr μ n o) (hi : i < n) (hj : j < n) : mOr (zA (zA μ 15 (upd (μ.2.2.1 15) i (nI (oG o j)))) 15 (upd ((zA μ 15 (upd (μ.2.2.1 15) i (nI (oG o j)))).2.2.1 15) j (nI (oG o i)))) n (swO o i j) := fun k hk => by
  show upd (upd (μ.2.2.1 15) i (nI (oG o j))) j (nI (oG o i)) k = _
  rw [oG_sw o i j k (by omega) (by omega)]
  by_cases q : k = j
  · rw [if_pos q, q]; exact pk_us
  · rw [if_neg q, pk_un q]
    by_cases q2 : k = i
    · rw [if_pos q2, q2]; exact pk_us
    · rw [if_neg q2, pk_un q2]; exact hO k hk
theorem m_rev {Q : Int32 → zSt → Prop} (h5 : n ≤ 5) : ∀ (g f a b : Nat) (o : List Nat) (μ : zSt), a < 100 → b ≤ a + g → g < f → b < n → o.length = n → mOr μ n o → (∀ τ, fr [] [] [15] [] μ τ → mOr τ n (rvO g o a b) → Q 1 τ) → w_X12_goesOn__100 N Q f (nI a) (nI b) μ
  | g, 0, _, _, _, _, _, _, hf, _, _, _, _ => absurd hf (Nat.not_lt_zero _)
  | 0, f + 1, a, b, o, μ, ha, hba, _, hb, _, hO, hQ => by
    show b_X12_goesOn__100 N (w_X12_goesOn__100 N Q f) Q (nI a) (nI b) μ
    unfold b_X12_goesOn__100
    exact br_t (nI_le (by omega) (by omega)) (hQ μ fr_r hO)
  | g + 1, f + 1, a, b, o, μ, ha, hba, hf, hb, hl, hO, hQ => by
    show b_X12_goesOn__100 N (w_X12_goesOn__100 N Q f) Q (nI a) (nI b) μ
    unfold b_X12_goesOn__100
    rw [rvO] at hQ
    by_cases q : a < b
    · rw [if_pos q] at hQ
      rw [nI_clamp (n := a) (by omega), nI_clamp (n := b) (by omega), hO a (by omega), hO b hb, nI_1 a, nI_m1 (a := b) (by omega)]
      refine br_f (nI_ge q (by omega)) ⟨vp_in_nI (by omega) (by decide), nm_e ⟨vp_in_nI (by omega) (by decide), vp_in_nI (by omega) (by decide), nm_e ⟨vp_in_nI (by omega) (by decide), nm_e (nm_e (nm_e ?_))⟩⟩⟩
      have f1 : fr [] [] [15] [] μ (zA (zA μ 15 (upd (μ.2.2.1 15) a (nI (oG o b)))) 15 (upd ((zA μ 15 (upd (μ.2.2.1 15) a (nI (oG o b)))).2.2.1 15) b (nI (oG o a)))) := fr_A (fr_A fr_r (by decide)) (by decide)
      refine m_rev h5 g f (a + 1) (b - 1) (swO o a b) _ (by omega) (by omega) (by omega) (by omega) ((swO_len o a b).trans hl) (m_swp h5 hl hO (by omega) hb) (fun τ2 f2 o2 => hQ τ2 (fr_t f1 f2) o2)
    · rw [if_neg q] at hQ
      exact br_t (nI_le (by omega) (by omega)) (hQ μ fr_r hO)
theorem m_adv41 {i : Nat} {Q : Int32 → zSt → Prop} (hN : 1100 < N) (h5 : n ≤ 5) (ho : okO n o) (hO : mOr μ n o) (hi : i < n) : ∀ j f, j < f → i ≤ j → j < n → (∀ τ, fr [] [] [15] [] μ τ → mOr τ n (rvO 5 (swO o i (pJ o i j)) (i + 1) (n - 1)) → Q 1 τ) → w_X12_goesOn__41 N Q f (nI n) (nI i) (nI j) μ
  | _, 0, hf, _, _, _ => absurd hf (Nat.not_lt_zero _)
  | j, f + 1, hf, hij, hj, hQ => by
    show b_X12_goesOn__41 N (w_X12_goesOn__41 N Q f) Q (nI n) (nI i) (nI j) μ
    have b1 := ho.2.1 i hi
    have b2 := ho.2.1 j hj
    have stop : pJ o i j = j → (∀ τ, fr [] [] [15] [] μ τ → mOr τ n (rvO 5 (swO o i j) (i + 1) (n - 1)) → Q 1 τ) := fun e => by rw [e] at hQ; exact hQ
    have hp : pJ o i j = (if oG o i ≤ oG o j then j else pJ o i (j - 1)) := by
      cases j with
      | zero =>
        have e : i = 0 := by omega
        rw [e, if_pos (Nat.le_refl _)]; rfl
      | succ j =>
        rw [pJ]
        by_cases q : oG o i ≤ oG o (j + 1)
        · rw [if_pos (Or.inr q), if_pos q]
        · have : ¬ j + 1 ≤ i := fun z => by
            have e : i = j + 1 := by omega
            rw [e] at q; exact q (Nat.le_refl _)
          rw [if_neg (fun z => z.elim this q), if_neg q, Nat.add_sub_cancel]
    unfold b_X12_goesOn__41
    rw [nI_clamp (n := i) (by omega), nI_clamp (n := j) (by omega), hO i hi, hO j hj, nI_1 i, nI_s1 (a := n) (by omega)]
    refine ⟨vp_in_nI (by omega) (by decide), vp_in_nI (by omega) (by decide), fun q => ⟨vp_in_nI (by omega) (by decide), nm_e ⟨vp_in_nI (by omega) (by decide), vp_in_nI (by omega) (by decide), nm_e ⟨vp_in_nI (by omega) (by decide), nm_e (nm_e (nm_e ?_))⟩⟩⟩, fun q => nm_e ?_⟩
    · have q := (nI_leI (by omega) (by omega)).mp q
      rw [if_pos q] at hp
      have f1 : fr [] [] [15] [] μ (zA (zA μ 15 (upd (μ.2.2.1 15) i (nI (oG o j)))) 15 (upd ((zA μ 15 (upd (μ.2.2.1 15) i (nI (oG o j)))).2.2.1 15) j (nI (oG o i)))) := fr_A (fr_A fr_r (by decide)) (by decide)
      exact m_rev h5 5 N (i + 1) (n - 1) (swO o i j) _ (by omega) (by omega) (by omega) (by omega) ((swO_len o i j).trans ho.1) (m_swp h5 ho.1 hO hi hj) (fun τ2 f2 o2 => stop hp τ2 (fr_t f1 f2) o2)
    · have q : ¬ oG o i ≤ oG o j := fun w => q (nI_le w (by omega))
      rw [if_neg q] at hp
      rw [hp] at hQ
      have : i ≠ j := fun e => by rw [e] at q; exact q (Nat.le_refl _)
      rw [nI_m1 (a := j) (by omega)]
      exact m_adv41 hN h5 ho hO hi (j - 1) f (by omega) (by omega) (by omega) hQ
theorem m_adv4 {Q : Int32 → zSt → Prop} (h5 : n ≤ 5) (ho : okO n o) (hO : mOr μ n o) : ∀ t f, t < f → t < n → b_X12_goesOn__31 N Q (nI n) (frI (pI o t)) μ → w_X12_goesOn__4 N Q f (nI n) (frI t) μ
  | _, 0, hf, _, _ => absurd hf (Nat.not_lt_zero _)
  | 0, f + 1, _, _, h => by
    show b_X12_goesOn__4 N (w_X12_goesOn__4 N Q f) Q (nI n) (frI 0) μ
    unfold b_X12_goesOn__4
    exact br_t n1_lt0 h
  | t + 1, f + 1, hf, ht, h => by
    show b_X12_goesOn__4 N (w_X12_goesOn__4 N Q f) Q (nI n) (frI (t + 1)) μ
    have b1 := ho.2.1 t (by omega)
    have b2 := ho.2.1 (t + 1) ht
    rw [pI] at h
    unfold b_X12_goesOn__4
    rw [frI_s, nI_1 t, nI_clamp (n := t) (by omega), nI_clamp (n := t + 1) (by omega), hO t (by omega), hO (t + 1) ht, frI_d t (by omega)]
    refine br_f (nlt_le.mpr (nI_le (a := 0) (by omega) (by omega))) ⟨vp_in_nI (by omega) (by decide), vp_in_nI (by omega) (by decide), fun q => ?_, fun q => nm_e ?_⟩
    · rw [if_pos ((nI_leI (by omega) (by omega)).mp q), frI_s] at h; exact h
    · rw [if_neg (fun w => q (nI_le w (by omega)))] at h
      exact m_adv4 h5 ho hO t f (by omega) (by omega) h
theorem m_advance {Q : Int32 → zSt → Prop} (hN : 1100 < N) (h2 : 2 ≤ n) (h5 : n ≤ 5) (ho : okO n o) (hO : mOr μ n o) (h0 : nxO n o = none → Q 0 μ) (h1 : ∀ o', nxO n o = some o' → ∀ τ, fr [] [] [15] [] μ τ → mOr τ n o' → Q 1 τ) : w_X12_goesOn_ N (nI n) μ Q := by
  unfold w_X12_goesOn_
  rw [show (2 : Int32) = nI 2 from rfl, pk_sub (by omega)]
  refine nm_e ?_
  have e : nI (n - 2) = frI (n - 1) := by rw [show n - 1 = (n - 2) + 1 by omega, frI_s]
  rw [e]
  refine m_adv4 h5 ho hO (n - 1) N (by omega) (by omega) ?_
  have hle := pI_le o (n - 1)
  unfold nxO at h0 h1
  unfold b_X12_goesOn__31
  rw [nI_s1 (a := n) (by omega)]
  cases hp : pI o (n - 1) with
  | zero =>
    rw [hp] at h0
    exact br_f (show ¬ (0 : Int32) ≤ -1 by decide) (h0 rfl)
  | succ i =>
    rw [hp] at h1
    rw [frI_s]
    exact br_t (nI_le (a := 0) (by omega) (by omega)) (nm_e (m_adv41 hN h5 ho hO (by omega) (n - 1) N (by omega) (by omega) (by omega) (fun τ f1 o1 => h1 _ rfl τ f1 o1)))
end od
