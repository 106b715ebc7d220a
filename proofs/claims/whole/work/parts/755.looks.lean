/-! the reference looks at a net: ways by phases -/
def mP (μ : zSt) (l : zL) : Prop := μ.2.2.1 1 1 = nI (lPn l) ∧ μ.2.2.2 1 1 = lN (lBa l) ∧ ∀ p, p < lPn l → μ.2.2.1 2 (10 + p) = nI (lPl l p) ∧ μ.2.2.1 3 (10 + p) = nI (lMo l p)
def mLk (μ : zSt) (l : zL) (net : Nat) : Prop := (∀ a b, a < lPn l → b < lPn l → μ.2.2.1 12 (10 * a + b) = dv (lPn l) net a b) ∧ (∀ a, a < lPn l → μ.2.2.1 13 a = nI (dg (lPn l) net a)) ∧ μ.1 15 = nI (pop net)
theorem ties_dg (n net p : Nat) : fb_ct (fun q => decide (q ≠ p) && net.testBit (prN p q)) n = dg n net p := fb_ct_cong (fun q _ => by
  unfold td
  congr 1
  by_cases h : q = p
  · subst h; rfl
  · simp [h, Ne.symm h])
theorem m_ties {N n net p : Nat} {μ : zSt} {Q : Int32 → zSt → Prop} (hN : 60 ≤ N) (hn : net < 2 ^ 45) (hm : μ.2.2.1 1 1 = nI n) (h10 : n ≤ 10) (hp : p < 10) (h : Q (nI (dg n net p)) μ) : w_X12_tiesOf N (lN net) (nI p) μ Q := m_tiesOf hN (by omega) hm h10 hp (by rw [ties_dg]; exact h)
def wy0 (net a b : Nat) : Int32 := if a = b then 0 else if td net a b then 1 else -1
theorem ix10 (a b : Nat) : (10 : Int32) * nI a + nI b = nI (10 * a + b) := by rw [li_10, pk_mul, nI_add]
section ml
variable {N : Nat} {μ : zSt} {Q : zSt → Prop} {n net : Nat}
theorem m_lk36 {k13 : Int64 → Int32 → Int32 → zSt → Prop} {a : Nat} {P : zSt → Prop} (hN : 60 ≤ N) (h10 : n ≤ 10) (ha : a < n) (hnet : net < 2 ^ 45) (hP : ∀ τ b v, P τ → b < n → P (zA τ 12 (upd (τ.2.2.1 12) (10 * a + b) v))) (hk : ∀ τ, P τ → (∀ b, b < n → τ.2.2.1 12 (10 * a + b) = wy0 net a b) → k13 (lN net) (nI n) (nI (a + 1)) τ) (τ : zSt) (h0 : P τ) : w_X12_looks_36 N k13 Q N (lN net) (nI n) (nI a) 0 τ := by
  refine loopU (S := zSt) (fun f b τ => w_X12_looks_36 N k13 Q f (lN net) (nI n) (nI a) (nI b) τ) (fun b τ => P τ ∧ ∀ b', b' < b → τ.2.2.1 12 (10 * a + b') = wy0 net a b') n ?_ ?_ N 0 τ (Nat.zero_le _) (by omega) ⟨h0, fun b hb => absurd hb (Nat.not_lt_zero _)⟩
  · intro f τ ⟨h0, h1⟩
    show b_X12_looks_36 N k13 (w_X12_looks_36 N k13 Q f) Q (lN net) (nI n) (nI a) (nI n) τ
    unfold b_X12_looks_36
    refine br_t (nI_le (Nat.le_refl _) (by omega)) (nm_e ?_)
    rw [nI_1]
    exact hk τ h0 h1
  · intro f b τ hb ⟨h0, h1⟩ ih
    show b_X12_looks_36 N k13 (w_X12_looks_36 N k13 Q f) Q (lN net) (nI n) (nI a) (nI b) τ
    unfold b_X12_looks_36
    have hv : vp_in (nI (10 * a + b)) 100 := vp_in_nI (by omega) (by decide)
    have key : ∀ v, v = wy0 net a b → w_X12_looks_36 N k13 Q f (lN net) (nI n) (nI a) (nI (b + 1)) (zA τ 12 (upd (τ.2.2.1 12) (10 * a + b) v)) := fun v e => ih _ ⟨hP τ b v h0 hb, fun b' hb' => by
      rw [zA_3s]
      by_cases q : b' = b
      · subst q; rw [pk_us, e]
      · rw [pk_un (by omega)]; exact h1 b' (by omega)⟩
    rw [ix10, nI_clamp (n := 10 * a + b) (by omega), nI_1 b]
    refine br_f (nI_ge hb (by omega)) ⟨fun q => ⟨hv, nm_e (nm_e (key _ ?_))⟩, fun q => ?_⟩
    · have q := (nI_eq (by omega) (by omega)).mp q
      exact (if_pos q).symm
    · have q : ¬ a = b := fun r => q (by rw [r])
      have hpr := (prN_ok a (by omega) b (by omega) q).1
      refine m_pairOf (by omega) (by omega) (m_isTied (by omega) (by omega) ?_)
      have etd : td net a b = net.testBit (prN a b) := by unfold td; simp [q]
      unfold wy0 at key
      rw [if_neg q, etd] at key
      cases hb2 : net.testBit (prN a b) with
      | true =>
        rw [hb2] at key
        exact ⟨fun r => absurd r (by decide), fun _ => ⟨hv, nm_e (nm_e (key _ rfl))⟩⟩
      | false =>
        rw [hb2] at key
        exact ⟨fun _ => ⟨hv, nm_e (nm_e (key _ rfl))⟩, fun r => absurd rfl r⟩
/-- within phase k: what is behind place (a, b), and what is ahead of it -/
def phI (n net k a b : Nat) (w : Nat → Int32) : Prop := ∀ a' b', a' < n → b' < n → ((a' < a ∨ (a' = a ∧ b' < b)) → fw n net (k + 1) (w (10 * a' + b')) a' b') ∧ (¬ (a' < a ∨ (a' = a ∧ b' < b)) → fw n net k (w (10 * a' + b')) a' b')
theorem ix_inj {a b c d : Nat} (hb : b < 10) (hd : d < 10) (h : 10 * a + b = 10 * c + d) : a = c ∧ b = d := by omega
theorem phI_s {k a b : Nat} {w w' : Nat → Int32} (h10 : n ≤ 10) (hb : b < n) (h : phI n net k a b w) (hv : fw n net (k + 1) (w' (10 * a + b)) a b) (ho : ∀ j, j ≠ 10 * a + b → w' j = w j) : phI n net k a (b + 1) w' := by
  intro a' b' ha' hb'
  by_cases e : a' = a ∧ b' = b
  · obtain ⟨e1, e2⟩ := e
    subst e1; subst e2
    exact ⟨fun _ => hv, fun q => absurd (Or.inr ⟨rfl, Nat.lt_succ_self _⟩) q⟩
  · have hne : 10 * a' + b' ≠ 10 * a + b := fun q => e (ix_inj (by omega) (by omega) q)
    rw [ho _ hne]
    obtain ⟨h1, h2⟩ := h a' b' ha' hb'
    exact ⟨fun q => h1 (by omega), fun q => h2 (by omega)⟩
theorem m_lk118 {k100 : Int64 → Int32 → Int32 → zSt → Prop} {k109 : Int64 → Int32 → Int32 → Int32 → zSt → Prop} {k a : Nat} {P : zSt → Prop} (hN : 60 ≤ N) (h10 : n ≤ 10) (ha : a < n) (hk : k < n) (hP : ∀ τ g, P τ → P (zA τ 12 g)) (hK : ∀ τ, P τ → phI n net k a n (τ.2.2.1 12) → k109 (lN net) (nI n) (nI k) (nI (a + 1)) τ) (τ : zSt) (h0 : P τ) (h1 : phI n net k a 0 (τ.2.2.1 12)) : w_X12_looks_118 N k100 k109 Q N (lN net) (nI n) (nI k) (nI a) 0 τ := by
  refine loopU (S := zSt) (fun f b τ => w_X12_looks_118 N k100 k109 Q f (lN net) (nI n) (nI k) (nI a) (nI b) τ) (fun b τ => P τ ∧ phI n net k a b (τ.2.2.1 12)) n ?_ ?_ N 0 τ (Nat.zero_le _) (by omega) ⟨h0, h1⟩
  · intro f τ ⟨h0, h1⟩
    show b_X12_looks_118 N k100 k109 (w_X12_looks_118 N k100 k109 Q f) Q (lN net) (nI n) (nI k) (nI a) (nI n) τ
    unfold b_X12_looks_118
    refine br_t (nI_le (Nat.le_refl _) (by omega)) (nm_e ?_)
    rw [nI_1]
    exact hK τ h0 h1
  · intro f b τ hb ⟨h0, h1⟩ ih
    show b_X12_looks_118 N k100 k109 (w_X12_looks_118 N k100 k109 Q f) Q (lN net) (nI n) (nI k) (nI a) (nI b) τ
    unfold b_X12_looks_118 b_X12_looks_200
    have hv : vp_in (nI (10 * a + b)) 100 := vp_in_nI (by omega) (by decide)
    have hvx : vp_in (nI (10 * a + k)) 100 := vp_in_nI (by omega) (by decide)
    have hvy : vp_in (nI (10 * k + b)) 100 := vp_in_nI (by omega) (by decide)
    have fx : fw n net k (τ.2.2.1 12 (10 * a + k)) a k := by
      obtain ⟨q1, q2⟩ := h1 a k ha hk
      by_cases q : a < a ∨ (a = a ∧ k < b)
      · exact fw_toK (q1 q)
      · exact q2 q
    have fy : fw n net k (τ.2.2.1 12 (10 * k + b)) k b := by
      obtain ⟨q1, q2⟩ := h1 k b hk hb
      by_cases q : k < a ∨ (k = a ∧ b < b)
      · exact fw_ofK (q1 q)
      · exact q2 q
    have fv : fw n net k (τ.2.2.1 12 (10 * a + b)) a b := (h1 a b ha hb).2 (by omega)
    rw [ix10, ix10, ix10, nI_clamp (n := 10 * a + b) (by omega), nI_clamp (n := 10 * a + k) (by omega), nI_clamp (n := 10 * k + b) (by omega), nI_1 b]
    have stay : fw n net (k + 1) (τ.2.2.1 12 (10 * a + b)) a b → w_X12_looks_118 N k100 k109 Q f (lN net) (nI n) (nI k) (nI a) (nI (b + 1)) τ := fun q => ih τ ⟨h0, phI_s h10 hb h1 q (fun _ _ => rfl)⟩
    have put : ∀ v, fw n net (k + 1) v a b → w_X12_looks_118 N k100 k109 Q f (lN net) (nI n) (nI k) (nI a) (nI (b + 1)) (zA τ 12 (upd (τ.2.2.1 12) (10 * a + b) v)) := fun v q => ih _ ⟨hP τ _ h0, by
      rw [zA_3s]
      exact phI_s h10 hb h1 (by rw [pk_us]; exact q) (fun j hj => pk_un hj)⟩
    generalize τ.2.2.1 12 (10 * a + b) = v at *
    generalize τ.2.2.1 12 (10 * a + k) = x at *
    generalize τ.2.2.1 12 (10 * k + b) = y at *
    refine br_f (nI_ge hb (by omega)) ⟨hvx, nm_e ⟨hvy, nm_e ⟨fun q => nm_e (stay (fw_no fv fx fy (Or.inl q) (by omega))), fun qx => ⟨fun q => nm_e (stay (fw_no fv fx fy (Or.inr q) (by omega))), fun qy => ⟨hv, nm_e ?_⟩⟩⟩⟩⟩
    rcases fx with ⟨q, _⟩ | ⟨mx, ex, wx, lx⟩
    · exact absurd q qx
    rcases fy with ⟨q, _⟩ | ⟨my, ey, wy, ly⟩
    · exact absurd q qy
    have bx := fw_le wx lx (by omega)
    have byy := fw_le wy ly (by omega)
    subst ex; subst ey
    have hby := fw_by fv (Or.inr ⟨mx, rfl, wx, lx⟩) (Or.inr ⟨my, rfl, wy, ly⟩) (by omega) (by omega) (by omega)
    rw [nI_add]
    refine ⟨fun q => ⟨hv, nm_e (nm_e (put _ ?_))⟩, fun q => ⟨fun r => nm_e (stay ?_), fun r => ⟨hv, nm_e (nm_e (put _ ?_))⟩⟩⟩
    · rw [if_pos (Or.inl q)] at hby; exact hby
    · rw [if_neg (fun z => z.elim q (fun z => (fa_of_lt z).2.1 r))] at hby; exact hby
    · rw [if_pos (Or.inr (fa_of_nle r))] at hby; exact hby
theorem m_lk109 {k100 : Int64 → Int32 → Int32 → zSt → Prop} {k : Nat} {P : zSt → Prop} (hN : 60 ≤ N) (h10 : n ≤ 10) (hk : k < n) (hP : ∀ τ g, P τ → P (zA τ 12 g)) (hK : ∀ τ, P τ → (∀ a b, a < n → b < n → fw n net (k + 1) (τ.2.2.1 12 (10 * a + b)) a b) → k100 (lN net) (nI n) (nI (k + 1)) τ) (τ : zSt) (h0 : P τ) (h1 : ∀ a b, a < n → b < n → fw n net k (τ.2.2.1 12 (10 * a + b)) a b) : w_X12_looks_109 N k100 Q N (lN net) (nI n) (nI k) 0 τ := by
  refine loopU (S := zSt) (fun f a τ => w_X12_looks_109 N k100 Q f (lN net) (nI n) (nI k) (nI a) τ) (fun a τ => P τ ∧ phI n net k a 0 (τ.2.2.1 12)) n ?_ ?_ N 0 τ (Nat.zero_le _) (by omega) ⟨h0, fun a b ha hb => ⟨fun q => by omega, fun _ => h1 a b ha hb⟩⟩
  · intro f τ ⟨h0, h1⟩
    show b_X12_looks_109 N k100 (w_X12_looks_109 N k100 Q f) Q (lN net) (nI n) (nI k) (nI n) τ
    unfold b_X12_looks_109
    refine br_t (nI_le (Nat.le_refl _) (by omega)) (nm_e ?_)
    rw [nI_1]
    exact hK τ h0 (fun a b ha hb => (h1 a b ha hb).1 (Or.inl ha))
  · intro f a τ ha ⟨h0, h1⟩ ih
    show b_X12_looks_109 N k100 (w_X12_looks_109 N k100 Q f) Q (lN net) (nI n) (nI k) (nI a) τ
    unfold b_X12_looks_109
    refine br_f (nI_ge ha (by omega)) (m_lk118 hN h10 ha hk hP (fun υ u0 u1 => ih υ ⟨u0, fun a' b' ha' hb' => ?_⟩) τ h0 h1)
    obtain ⟨q1, q2⟩ := u1 a' b' ha' hb'
    exact ⟨fun q => q1 (by omega), fun q => q2 (by omega)⟩
theorem m_lk100 {P : zSt → Prop} (hN : 60 ≤ N) (h10 : n ≤ 10) (hnet : net < 2 ^ 45) (hP : ∀ τ g, P τ → P (zA τ 12 g)) (hQ : ∀ τ, P τ → (∀ a b, a < n → b < n → τ.2.2.1 12 (10 * a + b) = dv n net a b) → Q (zI τ 15 (nI (pop net)))) (τ : zSt) (h0 : P τ) (h1 : ∀ a b, a < n → b < n → τ.2.2.1 12 (10 * a + b) = wy0 net a b) : w_X12_looks_100 N Q N (lN net) (nI n) 0 τ := by
  refine loopU (S := zSt) (fun f k τ => w_X12_looks_100 N Q f (lN net) (nI n) (nI k) τ) (fun k τ => P τ ∧ ∀ a b, a < n → b < n → fw n net k (τ.2.2.1 12 (10 * a + b)) a b) n ?_ ?_ N 0 τ (Nat.zero_le _) (by omega) ⟨h0, fun a b ha hb => by rw [h1 a b ha hb]; exact fw_0 hb⟩
  · intro f τ ⟨h0, h1⟩
    show b_X12_looks_100 N (w_X12_looks_100 N Q f) Q (lN net) (nI n) (nI n) τ
    unfold b_X12_looks_100
    refine br_t (nI_le (Nat.le_refl _) (by omega)) (m_bits hN (by omega) (nm_e ?_))
    exact hQ τ h0 (fun a b ha hb => fw_dv ha hb (h1 a b ha hb))
  · intro f k τ hk ⟨h0, h1⟩ ih
    show b_X12_looks_100 N (w_X12_looks_100 N Q f) Q (lN net) (nI n) (nI k) τ
    unfold b_X12_looks_100
    exact br_f (nI_ge hk (by omega)) (m_lk109 hN h10 hk hP (fun υ u0 u1 => ih υ ⟨u0, u1⟩) τ h0 h1)
end ml
theorem m_looks {N net : Nat} {μ : zSt} {l : zL} {Q : zSt → Prop} (hN : 60 ≤ N) (h10 : lPn l ≤ 10) (hm : μ.2.2.1 1 1 = nI (lPn l)) (hnet : net < 2 ^ 45) (hQ : ∀ τ, fr [15] [1] [12, 13] [] μ τ → τ.2.1 1 = lN net → mLk τ l net → Q τ) : w_X12_looks N (lN net) μ Q := by
  unfold w_X12_looks
  refine m_many hm (nm_e ?_)
  refine loopU (S := zSt) (fun f a τ => w_X12_looks_13 N Q f (lN net) (nI (lPn l)) (nI a) τ) (fun a τ => (fr [15] [1] [12, 13] [] μ τ ∧ τ.2.1 1 = lN net ∧ ∀ a', a' < a → τ.2.2.1 13 a' = nI (dg (lPn l) net a')) ∧ ∀ a' b, a' < a → b < lPn l → τ.2.2.1 12 (10 * a' + b) = wy0 net a' b) (lPn l) ?_ ?_ N 0 (zJ μ 1 (lN net)) (Nat.zero_le _) (by omega) ⟨⟨fr_J fr_r (by decide), zJ_2s, fun a h => absurd h (Nat.not_lt_zero _)⟩, fun a b h => absurd h (Nat.not_lt_zero _)⟩
  · intro f τ ⟨h0, h1⟩
    show b_X12_looks_13 N (w_X12_looks_13 N Q f) Q (lN net) (nI (lPn l)) (nI (lPn l)) τ
    unfold b_X12_looks_13
    refine br_t (nI_le (Nat.le_refl _) (by omega)) ?_
    refine m_lk100 (P := fun τ => fr [15] [1] [12, 13] [] μ τ ∧ τ.2.1 1 = lN net ∧ ∀ a', a' < lPn l → τ.2.2.1 13 a' = nI (dg (lPn l) net a')) hN h10 hnet (fun τ g h => ⟨fr_A h.1 (by decide), h.2.1, h.2.2⟩) (fun υ u0 u1 => ?_) τ h0 h1
    exact hQ _ (fr_I u0.1 (by decide)) u0.2.1 ⟨u1, u0.2.2, zI_1s⟩
  · intro f a τ ha ⟨h0, h1⟩ ih
    show b_X12_looks_13 N (w_X12_looks_13 N Q f) Q (lN net) (nI (lPn l)) (nI a) τ
    unfold b_X12_looks_13
    have hm2 : τ.2.2.1 1 1 = nI (lPn l) := by rw [h0.1.2.2.1 1 (by decide)]; exact hm
    refine br_f (nI_ge ha (by omega)) (m_ties hN hnet hm2 h10 (by omega) ⟨vp_in_nI (by omega) (by decide), nm_e ?_⟩)
    rw [nI_clamp (n := a) (by omega)]
    refine m_lk36 (n := lPn l) (P := fun τ => (fr [15] [1] [12, 13] [] μ τ ∧ τ.2.1 1 = lN net ∧ ∀ a', a' < a + 1 → τ.2.2.1 13 a' = nI (dg (lPn l) net a')) ∧ ∀ a' b, a' < a → b < lPn l → τ.2.2.1 12 (10 * a' + b) = wy0 net a' b) hN h10 ha hnet (fun υ b v u hb => ⟨⟨fr_A u.1.1 (by decide), u.1.2.1, u.1.2.2⟩, fun a' b' ha' hb' => by
      rw [zA_3s, pk_un (by omega)]; exact u.2 a' b' ha' hb'⟩) (fun υ u0 u1 => ih υ ⟨u0.1, fun a' b ha' hb => ?_⟩) _ ⟨⟨fr_A h0.1 (by decide), h0.2.1, fun a' ha' => ?_⟩, fun a' b ha' hb => h1 a' b ha' hb⟩
    · by_cases q : a' = a
      · subst q; exact u1 b hb
      · exact u0.2 a' b (by omega) hb
    · rw [zA_3s]
      by_cases q : a' = a
      · subst q; rw [pk_us]
      · rw [pk_un q]; exact h0.2.2 a' (by omega)
