/-! the reference finds persons; its stack, its orders -/
def mPe (μ : zSt) (n : Nat) (na : Nat → Nat) : Prop := n ≤ 10 ∧ μ.2.2.1 1 0 = nI n ∧ ∀ p, p < n → nmOk (na p) ∧ μ.2.2.2 0 p = lN (mNa (na p))
theorem mNa_lt {v : Nat} (h : nmOk v) : mNa v < 387420489 := by
  obtain ⟨m, a1, a2, a3, a4, a5⟩ := mNa_is h
  rw [a5]; exact hD_6 a3 a2 (Nat.le_refl _)
section mp
variable {N : Nat} {tp : Nat × (Nat → Nat)} {Q : Int32 → zSt → Prop} {μ ν : zSt} {s : zP} {n : Nat} {na : Nat → Nat}
theorem mPe_f {I J A B : List Nat} (f : fr I J A B μ ν) (hA : 1 ∉ A) (hB : 0 ∉ B) (h : mPe μ n na) : mPe ν n na := by
  unfold mPe; rw [f.2.2.1 1 hA, f.2.2.2 0 hB]; exact h
theorem m_perOf {v : Nat} (hN : 1100 < N) (h : mPe μ n na) (hv : nmOk v) (hQ : Q (whI (noF na n v)) μ) : w_X12_personOf N (lN (mNa v)) μ Q := by
  obtain ⟨h1, h2, h3⟩ := h
  have hvl := mNa_lt hv
  refine loopU (S := Unit) (fun f k _ => w_X12_personOf_2 N Q f (lN (mNa v)) (nI k) μ) (fun k _ => noF na n v = noG na v (n - k) k) n ?_ ?_ N 0 () (Nat.zero_le _) (by omega) rfl
  · intro f _ e
    show b_X12_personOf_2 N (w_X12_personOf_2 N Q f) Q (lN (mNa v)) (nI n) μ
    rw [e, Nat.sub_self] at hQ
    unfold b_X12_personOf_2
    rw [h2]
    exact br_t (nI_le (Nat.le_refl _) (by omega)) hQ
  · intro f k _ hk e ih
    show b_X12_personOf_2 N (w_X12_personOf_2 N Q f) Q (lN (mNa v)) (nI k) μ
    have h4 := h3 k hk
    have hkl := mNa_lt h4.1
    rw [show n - k = (n - (k + 1)) + 1 by omega, noG] at e
    unfold b_X12_personOf_2
    rw [h2, nI_clamp (n := k) (by omega), h4.2, nI_1, lg_cmp_eq, lN_eq (by omega) (by omega)]
    refine br_f (nI_ge hk (by omega)) ⟨vp_in_nI (by omega) (by decide), ⟨fun z => ?_, fun z => nm_e (ih () ?_)⟩⟩
    · rw [if_pos (mNa_inj h4.1 hv z)] at e
      rw [e] at hQ
      unfold whI at hQ
      rw [if_neg (by omega)] at hQ
      exact hQ
    · rw [if_neg (fun y => z (by rw [y]))] at e; exact e
theorem m_told {but : Nat} (hN : 1100 < N) (hb : but < 100) (hT : mTape μ tp) (h : mPos μ tp s.1 s.2.1) (hp : mPe μ n na) (h1 : ∀ k ν, peP tp n na but s = .ok k → fr [1, 3, 8] [] [] [] μ ν → mPos ν tp (nxP tp s).1 (nxP tp s).2.1 → Q (nI k) ν) (h2 : ∀ e k ν, peP tp n na but s = .error e → k < 10 → fr [1, 3, 4, 5, 8] [] [] [] μ ν → mBd ν e → Q (nI k) ν) : w_X12_personTold N (whI but) μ Q := by
  have hn := hp.1
  unfold w_X12_personTold
  refine m_name hN hT h (fun v ν ev hv f1 p1 e8 => br_t p1.2.1 ?_) (fun e ν he f1 b1 => ?_)
  · refine m_perOf hN (mPe_f f1 (by decide) (by decide) hp) hv ?_
    have hno : noF na n v < 100 := by
      have := noF_lt (na := na) (v := v) hn
      omega
    have nm : whI (noF na n v) = (-1 : Int32) ↔ noF na n v = 99 := whI_i (b := 99) hno (by decide)
    have bad : (noF na n v = 99 ∨ noF na n v = but) → b_X12_personTold_33 N Q (whI (noF na n v)) ν := fun c => by
      have e : peP tp n na but s = .error (3, sT tp s.1) := by unfold peP; rw [ev]; show (if noF na n v = 99 ∨ noF na n v = but then _ else _) = _; rw [if_pos c]
      unfold b_X12_personTold_33 b_X12_personTold_42
      rw [e8, nm]
      refine m_fl (k := 3) p1.2.1 (fun υ f2 b2 => ⟨fun z => h2 _ 0 υ e (by decide) (fr_t (fr_w f1 (subl rfl) (subl rfl) (subl rfl) (subl rfl)) (fr_w f2 (subl rfl) (subl rfl) (subl rfl) (subl rfl))) b2, fun z => ?_⟩)
      rw [show whI (noF na n v) = nI (noF na n v) from if_neg z]
      exact h2 _ _ υ e (by have := noF_lt (na := na) (v := v) hn; omega) (fr_t (fr_w f1 (subl rfl) (subl rfl) (subl rfl) (subl rfl)) (fr_w f2 (subl rfl) (subl rfl) (subl rfl) (subl rfl))) b2
    refine ⟨fun z => bad (Or.inl (nm.mp z)), fun z => ⟨fun y => bad (Or.inr ((whI_i hno hb).mp y)), fun y => ?_⟩⟩
    have z := fun q => z (nm.mpr q)
    have y := fun q => y ((whI_i hno hb).mpr q)
    have e : peP tp n na but s = .ok (noF na n v) := by unfold peP; rw [ev]; show (if noF na n v = 99 ∨ noF na n v = but then _ else _) = _; rw [if_neg (fun w => w.elim z y)]
    unfold b_X12_personTold_42
    rw [nm]
    refine br_f z ?_
    rw [show whI (noF na n v) = nI (noF na n v) from if_neg z]
    exact h1 _ ν e f1 p1
  · have e2 : peP tp n na but s = .error e := by unfold peP; rw [he]; rfl
    have g := naP_g (tp := tp) (s := s)
    rw [he] at g
    have g : 1 ≤ e.1 ∧ e.1 ≤ 5 := g
    refine br_f ?_ (h2 e 0 ν e2 (by decide) f1 b1)
    rw [b1.1]
    exact nI_ne0 (by omega) (by omega)
end mp
/-- what waits, the last one first -/
def wtk (w : Nat → Int32) : List Nat → Prop
  | [] => True
  | v :: S => w S.length = nI v ∧ wtk w S
theorem wtk_u {w : Nat → Int32} {j : Nat} {x : Int32} : ∀ {S : List Nat}, S.length ≤ j → wtk w S → wtk (upd w j x) S
  | [], _, _ => trivial
  | v :: S, h, ⟨a, b⟩ => by
    have h : S.length + 1 ≤ j := h
    exact ⟨(pk_un (by omega)).trans a, wtk_u (by omega) b⟩
theorem wtk_p {w : Nat → Int32} {v : Nat} {S : List Nat} (h : wtk w S) : wtk (upd w S.length (nI v)) (v :: S) := ⟨pk_us, wtk_u (Nat.le_refl _) h⟩
/-- how the reference stands in the middle of a rule: place, orders, what waits -/
def mK (μ : zSt) (tp : Nat × (Nat → Nat)) (s : zP) (S : List Nat) (b : Nat) : Prop := mTape μ tp ∧ mPos μ tp s.1 s.2.1 ∧ (s.2.2.1 ≤ 6 ∧ μ.1 11 = nI s.2.2.1) ∧ (μ.1 10 = nI S.length ∧ wtk (μ.2.2.1 11) S) ∧ μ.1 13 = nI b ∧ (μ.1 9 = nI s.2.2.2.length ∧ ∀ k, k < s.2.2.2.length → μ.2.2.1 10 k = nI (gR (s.2.2.2.getD k 0))) ∧ s.2.2.2.length + S.length ≤ s.1
def mFr (μ ν : zSt) : Prop := fr [1, 3, 4, 5, 8, 9, 10, 11, 13] [] [10, 11] [] μ ν ∧ ∀ k, 900 ≤ k → ν.2.2.1 10 k = μ.2.2.1 10 k
section mq
variable {N : Nat} {tp : Nat × (Nat → Nat)} {Q : Int32 → zSt → Prop} {μ ν υ : zSt} {s : zP} {S : List Nat} {b : Nat}
theorem mFr_r : mFr μ μ := ⟨fr_r, fun _ _ => rfl⟩
theorem mFr_t (h : mFr μ ν) (h2 : mFr ν υ) : mFr μ υ := ⟨fr_t h.1 h2.1, fun k hk => (h2.2 k hk).trans (h.2 k hk)⟩
theorem mFr_f {I : List Nat} (h : fr I [] [] [] μ ν) (hI : ∀ k, k ∈ I → k ∈ [1, 3, 4, 5, 8, 9, 10, 11, 13]) : mFr μ ν := ⟨fr_w h hI (subl rfl) (subl rfl) (subl rfl), fun k _ => by rw [h.2.2.1 10 (by decide)]⟩
theorem mK_le (h : mK μ tp s S b) : s.1 ≤ tp.1 := h.2.1.1
theorem mK_bd (h : mK μ tp s S b) : s.2.2.2.length + S.length ≤ 800 := by
  have h1 := mK_le h
  have h2 := h.1.1
  have h3 := h.2.2.2.2.2.2
  omega
/-- the place alone moved -/
theorem mK_mv {p : Nat} {g : Bool} (f : fr [1, 3] [] [] [] μ ν) (hp : s.1 ≤ p) (h : mK μ tp s S b) (p1 : mPos ν tp p g) : mK ν tp (p, g, s.2.2.1, s.2.2.2) S b := by
  obtain ⟨h1, h2, h3, h4, h5, h6, h7⟩ := h
  refine ⟨mTp_f f (by decide) (by decide) h1, p1, ⟨h3.1, ?_⟩, ⟨?_, ?_⟩, ?_, ⟨?_, ?_⟩, by show s.2.2.2.length + S.length ≤ p; omega⟩
  · rw [f.1 11 (by decide)]; exact h3.2
  · rw [f.1 10 (by decide)]; exact h4.1
  · rw [f.2.2.1 11 (by decide)]; exact h4.2
  · rw [f.1 13 (by decide)]; exact h5
  · rw [f.1 9 (by decide)]; exact h6.1
  · rw [f.2.2.1 10 (by decide)]; exact h6.2
theorem f1_13 {A : zSt} (f : fr [1] [] [] [] μ A) : fr [1, 3] [] [] [] μ A := fr_w f (subl rfl) (subl rfl) (subl rfl) (subl rfl)
theorem f13_m {A : zSt} (f : fr [1, 3] [] [] [] μ A) : mFr μ A := mFr_f f (subl rfl)
theorem mK_lk (f : fr [1] [] [] [] μ ν) (h : mK μ tp s S b) (p1 : mPos ν tp s.1 s.2.1) : mK ν tp s S b := mK_mv (f1_13 f) (Nat.le_refl _) h p1
theorem mK_nx (f : fr [1, 3] [] [] [] μ ν) (h : mK μ tp s S b) (p1 : mPos ν tp (nxP tp s).1 (nxP tp s).2.1) : mK ν tp (nxP tp s) S b := mK_mv f (by
  have h1 := sT_ge tp s.1
  show s.1 ≤ eT tp (sT tp s.1)
  have : sT tp s.1 ≤ eT tp (sT tp s.1) := by
    unfold eT
    split
    · exact enF_ge _
    · split
      · exact enF_ge _
      · split <;> omega
  omega) h p1
/-- one order more -/
theorem m_code {v : Nat} {Q : zSt → Prop} (h : mK μ tp s S b) (hl : s.2.2.2.length + S.length < s.1) (hQ : ∀ ν, mFr μ ν → mK ν tp (emP v s) S b → Q ν) : w_X12_code N (nI (gR v)) μ Q := by
  have hb := mK_bd h
  obtain ⟨h1, h2, h3, h4, h5, h6, h7⟩ := h
  unfold w_X12_code
  rw [h6.1, show (0 : Int32) + nI s.2.2.2.length = nI s.2.2.2.length by rw [show (0 : Int32) = nI 0 from rfl, nI_add, Nat.zero_add], nI_clamp (n := s.2.2.2.length) (by omega)]
  refine ⟨vp_in_nI (by omega) (by decide), nm_e (nm_e (hQ _ ⟨fr_I (fr_A fr_r (by decide)) (by decide), fun k hk => pk_un (by omega)⟩ ⟨h1, h2, h3, h4, h5, ⟨?_, fun k hk => ?_⟩, ?_⟩))⟩
  · show μ.1 9 + 1 = nI (s.2.2.2 ++ [v]).length
    rw [h6.1, nI_1, List.length_append]; rfl
  · have hk : k < (s.2.2.2 ++ [v]).length := hk
    rw [List.length_append] at hk
    have hk : k < s.2.2.2.length + 1 := hk
    show upd (μ.2.2.1 10) s.2.2.2.length (nI (gR v)) k = nI (gR ((s.2.2.2 ++ [v]).getD k 0))
    by_cases c : k = s.2.2.2.length
    · rw [c, pk_us, gd_r]
    · rw [pk_un c, gd_l _ _ _ (by omega)]
      exact h6.2 k (by omega)
  · show (s.2.2.2 ++ [v]).length + S.length ≤ s.1
    rw [List.length_append]
    show s.2.2.2.length + 1 + S.length ≤ s.1
    omega
/-- an order written though something failed -/
theorem m_codeB {v : Int32} {n : Nat} {e : Nat × Nat} {Q : zSt → Prop} (hb : mBd μ e) (h9 : μ.1 9 = nI n) (hn : n < 900) (hQ : ∀ ν, mFr μ ν → mBd ν e → ν.1 9 = nI (n + 1) → Q ν) : w_X12_code N v μ Q := by
  unfold w_X12_code
  rw [h9, show (0 : Int32) + nI n = nI n by rw [show (0 : Int32) = nI 0 from rfl, nI_add, Nat.zero_add], nI_clamp (n := n) (by omega)]
  refine ⟨vp_in_nI (by omega) (by decide), nm_e (nm_e (hQ _ ⟨fr_I (fr_A fr_r (by decide)) (by decide), fun k hk => pk_un (by omega)⟩ hb ?_))⟩
  show μ.1 9 + 1 = nI (n + 1)
  rw [h9, nI_1]
/-- something more waits -/
theorem mK_push {v : Nat} {x : Int32} (h : mK μ tp s S b) (hl : s.2.2.2.length + S.length < s.1) (hx : x = μ.1 10 + 1) : mK (zI (zA μ 11 (upd (μ.2.2.1 11) S.length (nI v))) 10 x) tp s (v :: S) b := by
  obtain ⟨h1, h2, h3, h4, h5, h6, h7⟩ := h
  refine ⟨h1, h2, h3, ⟨?_, wtk_p h4.2⟩, h5, h6, by show s.2.2.2.length + (S.length + 1) ≤ s.1; omega⟩
  show x = nI (S.length + 1)
  rw [hx, h4.1, nI_1]
theorem mF_push {v x : Int32} {j : Nat} : mFr μ (zI (zA μ 11 (upd (μ.2.2.1 11) j v)) 10 x) := ⟨fr_I (fr_A fr_r (by decide)) (by decide), fun _ _ => rfl⟩
/-- the last one that waits -/
theorem m_isOn {c v : Nat} (hc : c < 2 ^ 31) (hv : v < 2 ^ 31) (h : mK μ tp s (v :: S) b) (hQ : Q (b32 (decide (v = c))) μ) : w_X12_isOn N (nI c) μ Q := by
  have hb := mK_bd h
  have hb : s.2.2.2.length + (S.length + 1) ≤ 800 := hb
  obtain ⟨h1, h2, h3, ⟨h4, h41, h42⟩, h5, h6, h7⟩ := h
  have h4 : μ.1 10 = nI (S.length + 1) := h4
  unfold w_X12_isOn
  rw [h4, nI_pred, nI_clamp (n := S.length) (by omega), h41, nI_eq hv hc]
  refine br_f (nI_nle (by omega) (by omega)) ⟨vp_in_nI (by omega) (by decide), fun z => ?_, fun z => ?_⟩
  · rw [decide_eq_true z] at hQ; exact hQ
  · rw [decide_eq_false z] at hQ; exact hQ
theorem m_isOn0 {c : Int32} (h : mK μ tp s [] b) (hQ : Q 0 μ) : w_X12_isOn N c μ Q := by
  have h4 : μ.1 10 = nI 0 := h.2.2.2.1.1
  unfold w_X12_isOn
  rw [h4]
  exact br_t (by decide) hQ
/-- the last one that waits is written -/
theorem m_drops {v : Nat} {Q : zSt → Prop} (h : mK μ tp s (gR v :: S) b) (hQ : ∀ ν, mFr μ ν → mK ν tp (emP v s) S b → Q ν) : w_X12_drops N μ Q := by
  have hb := mK_bd h
  have hb : s.2.2.2.length + (S.length + 1) ≤ 800 := hb
  obtain ⟨h1, h2, h3, ⟨h4, h41, h42⟩, h5, h6, h7⟩ := h
  have h4 : μ.1 10 = nI (S.length + 1) := h4
  have h7 : s.2.2.2.length + (S.length + 1) ≤ s.1 := h7
  unfold w_X12_drops
  rw [h4, nI_pred]
  refine nm_e ?_
  have e10 : (zI μ 10 (nI S.length)).1 10 = nI S.length := rfl
  rw [e10, nI_clamp (n := S.length) (by omega), show (zI μ 10 (nI S.length)).2.2.1 11 S.length = nI (gR v) from h41]
  refine ⟨vp_in_nI (by omega) (by decide), ?_⟩
  have k1 : mK (zI μ 10 (nI S.length)) tp s S b := ⟨h1, h2, h3, ⟨rfl, h42⟩, h5, h6, by omega⟩
  exact m_code k1 (by omega) (fun ν f k => hQ ν (mFr_t (mFr_f (I := [10]) (fr_I fr_r (by decide)) (subl rfl)) f) k)
/-- opens: one too many, or one more that waits -/
theorem m_opens {v : Nat} {Q : zSt → Prop} (hk : ¬ kS tp s = 0) (h : mK μ tp s S b) (h1 : s.2.2.1 < 6 → ∀ ν, mFr μ ν → ν.1 1 = μ.1 1 → mPos ν tp s.1 s.2.1 → (∀ ω, fr [1, 3] [] [] [] ν ω → mPos ω tp (nxP tp s).1 (nxP tp s).2.1 → mK ω tp (nxP tp (upP s)) (v :: S) b) → Q ν) (h2 : ¬ s.2.2.1 < 6 → ∀ ν, fr [4, 5] [] [] [] μ ν → mBd ν (4, sT tp s.1) → Q ν) : w_X12_opens N (nI v) (nI (sT tp s.1)) μ Q := by
  have hb := mK_bd h
  have h8 := h.1.1
  have n1 := nx_gt h8 hk
  obtain ⟨a1, a2, a3, a4, a5, a6, a7⟩ := h
  unfold w_X12_opens
  rw [a3.2]
  refine ⟨fun z => ?_, fun z => nm_e ?_⟩
  · have z : nI s.2.2.1 = nI 6 := z
    rw [nI_eq (by omega) (by omega)] at z
    exact m_fl (k := 4) a2.2.1 (fun ν f b => h2 (by omega) ν f b)
  · have z : ¬ nI s.2.2.1 = nI 6 := z
    rw [nI_eq (by omega) (by omega)] at z
    rw [show (zI μ 11 (nI s.2.2.1 + 1)).1 10 = nI S.length from a4.1, nI_clamp (n := S.length) (by omega)]
    refine ⟨vp_in_nI (by omega) (by decide), nm_e (nm_e (h1 (by omega) _ ⟨fr_I (fr_A (fr_I fr_r (by decide)) (by decide)) (by decide), fun _ _ => rfl⟩ rfl a2 (fun ω f p => ?_)))⟩
    refine ⟨mTp_f f (by decide) (by decide) a1, p, ⟨by show s.2.2.1 + 1 ≤ 6; omega, ?_⟩, ⟨?_, ?_⟩, ?_, ⟨?_, ?_⟩, by show s.2.2.2.length + (S.length + 1) ≤ (nxP tp s).1; omega⟩
    · rw [f.1 11 (by decide)]
      show nI s.2.2.1 + 1 = nI (s.2.2.1 + 1)
      rw [nI_1]
    · rw [f.1 10 (by decide)]
      show μ.1 10 + 1 = nI (S.length + 1)
      rw [a4.1, nI_1]
    · rw [f.2.2.1 11 (by decide)]; exact wtk_p a4.2
    · rw [f.1 13 (by decide)]; exact a5
    · rw [f.1 9 (by decide)]; exact a6.1
    · rw [f.2.2.1 10 (by decide)]; exact a6.2
end mq
